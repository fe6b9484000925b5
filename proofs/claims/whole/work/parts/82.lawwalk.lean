section LT
variable {p : Program} {l : Launch} {e : Env} {s : State} {m : MethodId} {below : List Frame} {meth : Method} {c : Code} {sb SL : Nat} {xs : Nat → Int32} {D : va_G} {cA : Nat → ClassId}
theorem l_cI (C : LC p s m meth c sb SL xs D cA) {pc : Nat} {L : List (Nat × Value)} {st : List Value} {w : Wd} {n idx q na ci : Nat} (M' : MI) (as : List Value) {K : Int32 → Wd → Prop} (hd : decode code pc = .ok (.invokevirtual idx, 3)) (hlk : Cond.methodLink R_law idx M'.1 ∈ lw_tbl) (hc : CV M' na) (hk : kd q = .inr ci) (hcn : (cls_[ci]?).map (fun x => x.1) = some M'.1.cls) (hq : q < Nf 1) (hn : as.length = na) (hw : (st.map fun v => v.category).sum ≤ 8) (hR : FitL M') (hz : Z0 M') (hs : n ≤ 19967)
    (h : RunI 1 M' (.ref q :: as) w K) (h2 : ∀ x w1, K x w1 → LW p l e s m below meth c sb D cA (pc + 3) L (.int x :: st) (Nf 1) (Rf 1) w1 n) : LW p l e s m below meth c sb D cA pc L ((as.map (cvB s.heap.size)).reverse ++ .ref (s.heap.size + q) :: st) (Nf 1) (Rf 1) w n :=
  l_callV C M' as hd hlk hc hk hcn hq hn hw hR (by rw [hz.1, hz.2]; exact ⟨Nat.le_refl 58, hs⟩) h (fun r N' R' w' hN ⟨a, b, x, c, d⟩ => by subst a; subst b; subst c; rw [hz.2]; exact h2 x w' d)
theorem l_cL (C : LC p s m meth c sb SL xs D cA) {pc : Nat} {L : List (Nat × Value)} {st : List Value} {w : Wd} {n idx q na ci : Nat} (M' : MI) (as : List Value) {K : Int64 → Wd → Prop} (hd : decode code pc = .ok (.invokevirtual idx, 3)) (hlk : Cond.methodLink R_law idx M'.1 ∈ lw_tbl) (hc : CV M' na) (hk : kd q = .inr ci) (hcn : (cls_[ci]?).map (fun x => x.1) = some M'.1.cls) (hq : q < Nf 1) (hn : as.length = na) (hw : (st.map fun v => v.category).sum ≤ 8) (hR : FitL M') (hz : Z0 M') (hs : n ≤ 19967)
    (h : RunL 1 M' (.ref q :: as) w K) (h2 : ∀ x w1, K x w1 → LW p l e s m below meth c sb D cA (pc + 3) L (.long x :: st) (Nf 1) (Rf 1) w1 n) : LW p l e s m below meth c sb D cA pc L ((as.map (cvB s.heap.size)).reverse ++ .ref (s.heap.size + q) :: st) (Nf 1) (Rf 1) w n :=
  l_callV C M' as hd hlk hc hk hcn hq hn hw hR (by rw [hz.1, hz.2]; exact ⟨Nat.le_refl 58, hs⟩) h (fun r N' R' w' hN ⟨a, b, x, c, d⟩ => by subst a; subst b; subst c; rw [hz.2]; exact h2 x w' d)
end LT
theorem ix_1 {j SL : Nat} (h : 6 * j + 6 ≤ SL) (hL : SL ≤ 3072) : vp_in (nI (6 * j) + 1) SL := by
  show vp_in (nI (6 * j) + nI 1) SL
  rw [nI_add]
  exact vp_in_nI (by omega) (by omega)
theorem ix_2 {j SL : Nat} (h : 6 * j + 6 ≤ SL) (hL : SL ≤ 3072) : vp_in (nI (6 * j) + 2) SL := by
  show vp_in (nI (6 * j) + nI 2) SL
  rw [nI_add]
  exact vp_in_nI (by omega) (by omega)
theorem ix_3 {j SL : Nat} (h : 6 * j + 6 ≤ SL) (hL : SL ≤ 3072) : vp_in (nI (6 * j) + 3) SL := by
  show vp_in (nI (6 * j) + nI 3) SL
  rw [nI_add]
  exact vp_in_nI (by omega) (by omega)
theorem ix_4 {j SL : Nat} (h : 6 * j + 6 ≤ SL) (hL : SL ≤ 3072) : vp_in (nI (6 * j) + 4) SL := by
  show vp_in (nI (6 * j) + nI 4) SL
  rw [nI_add]
  exact vp_in_nI (by omega) (by omega)
theorem ix_5 {j SL : Nat} (h : 6 * j + 6 ≤ SL) (hL : SL ≤ 3072) : vp_in (nI (6 * j) + 5) SL := by
  show vp_in (nI (6 * j) + nI 5) SL
  rw [nI_add]
  exact vp_in_nI (by omega) (by omega)
theorem lc_0 {p : Program} {l : Launch} {e : Env} {s : State} {m : MethodId} {below : List Frame} {meth : Method} {c : Code} {sb SL : Nat} {xs : Nat → Int32} {D : va_G} {cA : Nat → ClassId} (C : LC p s m meth c sb SL xs D cA) {INV : Wd → Prop} (hop : Op_setGroup INV) {j : Nat} (hj : 6 * j + 6 ≤ SL) (hL : SL ≤ 3072) {w : Wd} (hI : INV w) (hnext : ∀ w2, INV w2 → LW p l e s m below meth c sb D cA 1338 [(0, .ref sb), (1, .ref (s.heap.size + 0)), (2, .ref (s.heap.size + 39)), (3, .int (nI (6 * j)))] [] (Nf 1) (Rf 1) w2 19967) : LW p l e s m below meth c sb D cA 244 [(0, .ref sb), (1, .ref (s.heap.size + 0)), (2, .ref (s.heap.size + 39)), (3, .int (nI (6 * j)))] [] (Nf 1) (Rf 1) w 19967 := by
  refine l_aload_n C 1 d_law_244 rfl ?_
  refine l_aload_n C 0 d_law_245 rfl ?_
  refine l_iload_n C 3 d_law_246 rfl ?_
  refine l_iconst C (v := 1) d_law_247 (by decide) ?_
  refine l_iadd C d_law_248 ?_
  refine l_sld C d_law_249 (ix_1 hj hL) ?_
  refine l_aload_n C 0 d_law_250 rfl ?_
  refine l_iload_n C 3 d_law_251 rfl ?_
  refine l_iconst C (v := 2) d_law_252 (by decide) ?_
  refine l_iadd C d_law_253 ?_
  refine l_sld C d_law_254 (ix_2 hj hL) ?_
  refine l_cI C (st := []) M_A_setGroup [.int (xs (nI (6 * j) + 1).toNatClampNeg), .int (xs (nI (6 * j) + 2).toNatClampNeg)] d_law_255 lk_13 cv_A_setGroup rfl rfl (Nf_58 (by decide)) rfl (Nat.le_of_ble_eq_true rfl) ⟨Nat.le_of_ble_eq_true rfl, Nat.le_of_ble_eq_true rfl⟩ ⟨rfl, rfl⟩ (Nat.le_refl _) (hop _ _ w hI) (fun x1 w1 h1 => ?_)
  refine l_aload_n C 2 d_law_258 rfl ?_
  refine l_aload_n C 0 d_law_259 rfl ?_
  refine l_iload_n C 3 d_law_260 rfl ?_
  refine l_iconst C (v := 1) d_law_261 (by decide) ?_
  refine l_iadd C d_law_262 ?_
  refine l_sld C d_law_263 (ix_1 hj hL) ?_
  refine l_aload_n C 0 d_law_264 rfl ?_
  refine l_iload_n C 3 d_law_265 rfl ?_
  refine l_iconst C (v := 2) d_law_266 (by decide) ?_
  refine l_iadd C d_law_267 ?_
  refine l_sld C d_law_268 (ix_2 hj hL) ?_
  refine l_cI C (st := [.int x1]) M_B_setGroup [.int (xs (nI (6 * j) + 1).toNatClampNeg), .int (xs (nI (6 * j) + 2).toNatClampNeg)] d_law_269 lk_17 cv_B_setGroup rfl rfl (Nf_58 (by decide)) rfl (Nat.le_of_ble_eq_true rfl) ⟨Nat.le_of_ble_eq_true rfl, Nat.le_of_ble_eq_true rfl⟩ ⟨rfl, rfl⟩ (Nat.le_refl _) h1 (fun x2 w2 h2 => ?_)
  refine l_icmp_eq C 1338 d_law_272 (by decide) (fun c0 => ?_) (fun c0 => absurd h2.1.symm c0)
  exact hnext w2 h2.2
theorem lc_1 {p : Program} {l : Launch} {e : Env} {s : State} {m : MethodId} {below : List Frame} {meth : Method} {c : Code} {sb SL : Nat} {xs : Nat → Int32} {D : va_G} {cA : Nat → ClassId} (C : LC p s m meth c sb SL xs D cA) {INV : Wd → Prop} (hop : Op_order INV) {j : Nat} (hj : 6 * j + 6 ≤ SL) (hL : SL ≤ 3072) {w : Wd} (hI : INV w) (hnext : ∀ w2, INV w2 → LW p l e s m below meth c sb D cA 1338 [(0, .ref sb), (1, .ref (s.heap.size + 0)), (2, .ref (s.heap.size + 39)), (3, .int (nI (6 * j)))] [] (Nf 1) (Rf 1) w2 19967) : LW p l e s m below meth c sb D cA 277 [(0, .ref sb), (1, .ref (s.heap.size + 0)), (2, .ref (s.heap.size + 39)), (3, .int (nI (6 * j)))] [] (Nf 1) (Rf 1) w 19967 := by
  refine l_aload_n C 1 d_law_277 rfl ?_
  refine l_cI C (st := []) M_A_order [] d_law_278 lk_18 cv_A_order rfl rfl (Nf_58 (by decide)) rfl (Nat.le_of_ble_eq_true rfl) ⟨Nat.le_of_ble_eq_true rfl, Nat.le_of_ble_eq_true rfl⟩ ⟨rfl, rfl⟩ (Nat.le_refl _) (hop  w hI) (fun x1 w1 h1 => ?_)
  refine l_aload_n C 2 d_law_281 rfl ?_
  refine l_cI C (st := [.int x1]) M_B_order [] d_law_282 lk_22 cv_B_order rfl rfl (Nf_58 (by decide)) rfl (Nat.le_of_ble_eq_true rfl) ⟨Nat.le_of_ble_eq_true rfl, Nat.le_of_ble_eq_true rfl⟩ ⟨rfl, rfl⟩ (Nat.le_refl _) h1 (fun x2 w2 h2 => ?_)
  refine l_icmp_eq C 1338 d_law_285 (by decide) (fun c0 => ?_) (fun c0 => absurd h2.1.symm c0)
  exact hnext w2 h2.2
theorem lc_2 {p : Program} {l : Launch} {e : Env} {s : State} {m : MethodId} {below : List Frame} {meth : Method} {c : Code} {sb SL : Nat} {xs : Nat → Int32} {D : va_G} {cA : Nat → ClassId} (C : LC p s m meth c sb SL xs D cA) {INV : Wd → Prop} (hop : Op_sum INV) {j : Nat} (hj : 6 * j + 6 ≤ SL) (hL : SL ≤ 3072) {w : Wd} (hI : INV w) (hnext : ∀ w2, INV w2 → LW p l e s m below meth c sb D cA 1338 [(0, .ref sb), (1, .ref (s.heap.size + 0)), (2, .ref (s.heap.size + 39)), (3, .int (nI (6 * j)))] [] (Nf 1) (Rf 1) w2 19967) : LW p l e s m below meth c sb D cA 290 [(0, .ref sb), (1, .ref (s.heap.size + 0)), (2, .ref (s.heap.size + 39)), (3, .int (nI (6 * j)))] [] (Nf 1) (Rf 1) w 19967 := by
  refine l_aload_n C 1 d_law_290 rfl ?_
  refine l_aload_n C 0 d_law_291 rfl ?_
  refine l_iload_n C 3 d_law_292 rfl ?_
  refine l_iconst C (v := 1) d_law_293 (by decide) ?_
  refine l_iadd C d_law_294 ?_
  refine l_sld C d_law_295 (ix_1 hj hL) ?_
  refine l_aload_n C 0 d_law_296 rfl ?_
  refine l_iload_n C 3 d_law_297 rfl ?_
  refine l_iconst C (v := 2) d_law_298 (by decide) ?_
  refine l_iadd C d_law_299 ?_
  refine l_sld C d_law_300 (ix_2 hj hL) ?_
  refine l_cI C (st := []) M_A_sum [.int (xs (nI (6 * j) + 1).toNatClampNeg), .int (xs (nI (6 * j) + 2).toNatClampNeg)] d_law_301 lk_23 cv_A_sum rfl rfl (Nf_58 (by decide)) rfl (Nat.le_of_ble_eq_true rfl) ⟨Nat.le_of_ble_eq_true rfl, Nat.le_of_ble_eq_true rfl⟩ ⟨rfl, rfl⟩ (Nat.le_refl _) (hop _ _ w hI) (fun x1 w1 h1 => ?_)
  refine l_aload_n C 2 d_law_304 rfl ?_
  refine l_aload_n C 0 d_law_305 rfl ?_
  refine l_iload_n C 3 d_law_306 rfl ?_
  refine l_iconst C (v := 1) d_law_307 (by decide) ?_
  refine l_iadd C d_law_308 ?_
  refine l_sld C d_law_309 (ix_1 hj hL) ?_
  refine l_aload_n C 0 d_law_310 rfl ?_
  refine l_iload_n C 3 d_law_311 rfl ?_
  refine l_iconst C (v := 2) d_law_312 (by decide) ?_
  refine l_iadd C d_law_313 ?_
  refine l_sld C d_law_314 (ix_2 hj hL) ?_
  refine l_cI C (st := [.int x1]) M_B_sum [.int (xs (nI (6 * j) + 1).toNatClampNeg), .int (xs (nI (6 * j) + 2).toNatClampNeg)] d_law_315 lk_26 cv_B_sum rfl rfl (Nf_58 (by decide)) rfl (Nat.le_of_ble_eq_true rfl) ⟨Nat.le_of_ble_eq_true rfl, Nat.le_of_ble_eq_true rfl⟩ ⟨rfl, rfl⟩ (Nat.le_refl _) h1 (fun x2 w2 h2 => ?_)
  refine l_icmp_eq C 1338 d_law_318 (by decide) (fun c0 => ?_) (fun c0 => absurd h2.1.symm c0)
  exact hnext w2 h2.2
theorem lc_3 {p : Program} {l : Launch} {e : Env} {s : State} {m : MethodId} {below : List Frame} {meth : Method} {c : Code} {sb SL : Nat} {xs : Nat → Int32} {D : va_G} {cA : Nat → ClassId} (C : LC p s m meth c sb SL xs D cA) {INV : Wd → Prop} (hop : Op_multiple INV) {j : Nat} (hj : 6 * j + 6 ≤ SL) (hL : SL ≤ 3072) {w : Wd} (hI : INV w) (hnext : ∀ w2, INV w2 → LW p l e s m below meth c sb D cA 1338 [(0, .ref sb), (1, .ref (s.heap.size + 0)), (2, .ref (s.heap.size + 39)), (3, .int (nI (6 * j)))] [] (Nf 1) (Rf 1) w2 19967) : LW p l e s m below meth c sb D cA 323 [(0, .ref sb), (1, .ref (s.heap.size + 0)), (2, .ref (s.heap.size + 39)), (3, .int (nI (6 * j)))] [] (Nf 1) (Rf 1) w 19967 := by
  refine l_aload_n C 1 d_law_323 rfl ?_
  refine l_aload_n C 0 d_law_324 rfl ?_
  refine l_iload_n C 3 d_law_325 rfl ?_
  refine l_iconst C (v := 1) d_law_326 (by decide) ?_
  refine l_iadd C d_law_327 ?_
  refine l_sld C d_law_328 (ix_1 hj hL) ?_
  refine l_aload_n C 0 d_law_329 rfl ?_
  refine l_iload_n C 3 d_law_330 rfl ?_
  refine l_iconst C (v := 2) d_law_331 (by decide) ?_
  refine l_iadd C d_law_332 ?_
  refine l_sld C d_law_333 (ix_2 hj hL) ?_
  refine l_cI C (st := []) M_A_multiple [.int (xs (nI (6 * j) + 1).toNatClampNeg), .int (xs (nI (6 * j) + 2).toNatClampNeg)] d_law_334 lk_27 cv_A_multiple rfl rfl (Nf_58 (by decide)) rfl (Nat.le_of_ble_eq_true rfl) ⟨Nat.le_of_ble_eq_true rfl, Nat.le_of_ble_eq_true rfl⟩ ⟨rfl, rfl⟩ (Nat.le_refl _) (hop _ _ w hI) (fun x1 w1 h1 => ?_)
  refine l_aload_n C 2 d_law_337 rfl ?_
  refine l_aload_n C 0 d_law_338 rfl ?_
  refine l_iload_n C 3 d_law_339 rfl ?_
  refine l_iconst C (v := 1) d_law_340 (by decide) ?_
  refine l_iadd C d_law_341 ?_
  refine l_sld C d_law_342 (ix_1 hj hL) ?_
  refine l_aload_n C 0 d_law_343 rfl ?_
  refine l_iload_n C 3 d_law_344 rfl ?_
  refine l_iconst C (v := 2) d_law_345 (by decide) ?_
  refine l_iadd C d_law_346 ?_
  refine l_sld C d_law_347 (ix_2 hj hL) ?_
  refine l_cI C (st := [.int x1]) M_B_multiple [.int (xs (nI (6 * j) + 1).toNatClampNeg), .int (xs (nI (6 * j) + 2).toNatClampNeg)] d_law_348 lk_30 cv_B_multiple rfl rfl (Nf_58 (by decide)) rfl (Nat.le_of_ble_eq_true rfl) ⟨Nat.le_of_ble_eq_true rfl, Nat.le_of_ble_eq_true rfl⟩ ⟨rfl, rfl⟩ (Nat.le_refl _) h1 (fun x2 w2 h2 => ?_)
  refine l_icmp_eq C 1338 d_law_351 (by decide) (fun c0 => ?_) (fun c0 => absurd h2.1.symm c0)
  exact hnext w2 h2.2
theorem lc_4 {p : Program} {l : Launch} {e : Env} {s : State} {m : MethodId} {below : List Frame} {meth : Method} {c : Code} {sb SL : Nat} {xs : Nat → Int32} {D : va_G} {cA : Nat → ClassId} (C : LC p s m meth c sb SL xs D cA) {INV : Wd → Prop} (hop : Op_orderOf INV) {j : Nat} (hj : 6 * j + 6 ≤ SL) (hL : SL ≤ 3072) {w : Wd} (hI : INV w) (hnext : ∀ w2, INV w2 → LW p l e s m below meth c sb D cA 1338 [(0, .ref sb), (1, .ref (s.heap.size + 0)), (2, .ref (s.heap.size + 39)), (3, .int (nI (6 * j)))] [] (Nf 1) (Rf 1) w2 19967) : LW p l e s m below meth c sb D cA 356 [(0, .ref sb), (1, .ref (s.heap.size + 0)), (2, .ref (s.heap.size + 39)), (3, .int (nI (6 * j)))] [] (Nf 1) (Rf 1) w 19967 := by
  refine l_aload_n C 1 d_law_356 rfl ?_
  refine l_aload_n C 0 d_law_357 rfl ?_
  refine l_iload_n C 3 d_law_358 rfl ?_
  refine l_iconst C (v := 1) d_law_359 (by decide) ?_
  refine l_iadd C d_law_360 ?_
  refine l_sld C d_law_361 (ix_1 hj hL) ?_
  refine l_cI C (st := []) M_A_orderOf [.int (xs (nI (6 * j) + 1).toNatClampNeg)] d_law_362 lk_31 cv_A_orderOf rfl rfl (Nf_58 (by decide)) rfl (Nat.le_of_ble_eq_true rfl) ⟨Nat.le_of_ble_eq_true rfl, Nat.le_of_ble_eq_true rfl⟩ ⟨rfl, rfl⟩ (Nat.le_refl _) (hop _ w hI) (fun x1 w1 h1 => ?_)
  refine l_aload_n C 2 d_law_365 rfl ?_
  refine l_aload_n C 0 d_law_366 rfl ?_
  refine l_iload_n C 3 d_law_367 rfl ?_
  refine l_iconst C (v := 1) d_law_368 (by decide) ?_
  refine l_iadd C d_law_369 ?_
  refine l_sld C d_law_370 (ix_1 hj hL) ?_
  refine l_cI C (st := [.int x1]) M_B_orderOf [.int (xs (nI (6 * j) + 1).toNatClampNeg)] d_law_371 lk_35 cv_B_orderOf rfl rfl (Nf_58 (by decide)) rfl (Nat.le_of_ble_eq_true rfl) ⟨Nat.le_of_ble_eq_true rfl, Nat.le_of_ble_eq_true rfl⟩ ⟨rfl, rfl⟩ (Nat.le_refl _) h1 (fun x2 w2 h2 => ?_)
  refine l_icmp_eq C 1338 d_law_374 (by decide) (fun c0 => ?_) (fun c0 => absurd h2.1.symm c0)
  exact hnext w2 h2.2
theorem lc_5 {p : Program} {l : Launch} {e : Env} {s : State} {m : MethodId} {below : List Frame} {meth : Method} {c : Code} {sb SL : Nat} {xs : Nat → Int32} {D : va_G} {cA : Nat → ClassId} (C : LC p s m meth c sb SL xs D cA) {INV : Wd → Prop} (hop : Op_automorphisms INV) {j : Nat} (hj : 6 * j + 6 ≤ SL) (hL : SL ≤ 3072) {w : Wd} (hI : INV w) (hnext : ∀ w2, INV w2 → LW p l e s m below meth c sb D cA 1338 [(0, .ref sb), (1, .ref (s.heap.size + 0)), (2, .ref (s.heap.size + 39)), (3, .int (nI (6 * j)))] [] (Nf 1) (Rf 1) w2 19967) : LW p l e s m below meth c sb D cA 379 [(0, .ref sb), (1, .ref (s.heap.size + 0)), (2, .ref (s.heap.size + 39)), (3, .int (nI (6 * j)))] [] (Nf 1) (Rf 1) w 19967 := by
  refine l_aload_n C 1 d_law_379 rfl ?_
  refine l_cI C (st := []) M_A_automorphisms [] d_law_380 lk_36 cv_A_automorphisms rfl rfl (Nf_58 (by decide)) rfl (Nat.le_of_ble_eq_true rfl) ⟨Nat.le_of_ble_eq_true rfl, Nat.le_of_ble_eq_true rfl⟩ ⟨rfl, rfl⟩ (Nat.le_refl _) (hop  w hI) (fun x1 w1 h1 => ?_)
  refine l_aload_n C 2 d_law_383 rfl ?_
  refine l_cI C (st := [.int x1]) M_B_automorphisms [] d_law_384 lk_39 cv_B_automorphisms rfl rfl (Nf_58 (by decide)) rfl (Nat.le_of_ble_eq_true rfl) ⟨Nat.le_of_ble_eq_true rfl, Nat.le_of_ble_eq_true rfl⟩ ⟨rfl, rfl⟩ (Nat.le_refl _) h1 (fun x2 w2 h2 => ?_)
  refine l_icmp_eq C 1338 d_law_387 (by decide) (fun c0 => ?_) (fun c0 => absurd h2.1.symm c0)
  exact hnext w2 h2.2
theorem lc_6 {p : Program} {l : Launch} {e : Env} {s : State} {m : MethodId} {below : List Frame} {meth : Method} {c : Code} {sb SL : Nat} {xs : Nat → Int32} {D : va_G} {cA : Nat → ClassId} (C : LC p s m meth c sb SL xs D cA) {INV : Wd → Prop} (hop : Op_image INV) {j : Nat} (hj : 6 * j + 6 ≤ SL) (hL : SL ≤ 3072) {w : Wd} (hI : INV w) (hnext : ∀ w2, INV w2 → LW p l e s m below meth c sb D cA 1338 [(0, .ref sb), (1, .ref (s.heap.size + 0)), (2, .ref (s.heap.size + 39)), (3, .int (nI (6 * j)))] [] (Nf 1) (Rf 1) w2 19967) : LW p l e s m below meth c sb D cA 392 [(0, .ref sb), (1, .ref (s.heap.size + 0)), (2, .ref (s.heap.size + 39)), (3, .int (nI (6 * j)))] [] (Nf 1) (Rf 1) w 19967 := by
  refine l_aload_n C 1 d_law_392 rfl ?_
  refine l_aload_n C 0 d_law_393 rfl ?_
  refine l_iload_n C 3 d_law_394 rfl ?_
  refine l_iconst C (v := 1) d_law_395 (by decide) ?_
  refine l_iadd C d_law_396 ?_
  refine l_sld C d_law_397 (ix_1 hj hL) ?_
  refine l_aload_n C 0 d_law_398 rfl ?_
  refine l_iload_n C 3 d_law_399 rfl ?_
  refine l_iconst C (v := 2) d_law_400 (by decide) ?_
  refine l_iadd C d_law_401 ?_
  refine l_sld C d_law_402 (ix_2 hj hL) ?_
  refine l_cI C (st := []) M_A_image [.int (xs (nI (6 * j) + 1).toNatClampNeg), .int (xs (nI (6 * j) + 2).toNatClampNeg)] d_law_403 lk_40 cv_A_image rfl rfl (Nf_58 (by decide)) rfl (Nat.le_of_ble_eq_true rfl) ⟨Nat.le_of_ble_eq_true rfl, Nat.le_of_ble_eq_true rfl⟩ ⟨rfl, rfl⟩ (Nat.le_refl _) (hop _ _ w hI) (fun x1 w1 h1 => ?_)
  refine l_aload_n C 2 d_law_406 rfl ?_
  refine l_aload_n C 0 d_law_407 rfl ?_
  refine l_iload_n C 3 d_law_408 rfl ?_
  refine l_iconst C (v := 1) d_law_409 (by decide) ?_
  refine l_iadd C d_law_410 ?_
  refine l_sld C d_law_411 (ix_1 hj hL) ?_
  refine l_aload_n C 0 d_law_412 rfl ?_
  refine l_iload_n C 3 d_law_413 rfl ?_
  refine l_iconst C (v := 2) d_law_414 (by decide) ?_
  refine l_iadd C d_law_415 ?_
  refine l_sld C d_law_416 (ix_2 hj hL) ?_
  refine l_cI C (st := [.int x1]) M_B_image [.int (xs (nI (6 * j) + 1).toNatClampNeg), .int (xs (nI (6 * j) + 2).toNatClampNeg)] d_law_417 lk_43 cv_B_image rfl rfl (Nf_58 (by decide)) rfl (Nat.le_of_ble_eq_true rfl) ⟨Nat.le_of_ble_eq_true rfl, Nat.le_of_ble_eq_true rfl⟩ ⟨rfl, rfl⟩ (Nat.le_refl _) h1 (fun x2 w2 h2 => ?_)
  refine l_icmp_eq C 1338 d_law_420 (by decide) (fun c0 => ?_) (fun c0 => absurd h2.1.symm c0)
  exact hnext w2 h2.2
theorem lc_7 {p : Program} {l : Launch} {e : Env} {s : State} {m : MethodId} {below : List Frame} {meth : Method} {c : Code} {sb SL : Nat} {xs : Nat → Int32} {D : va_G} {cA : Nat → ClassId} (C : LC p s m meth c sb SL xs D cA) {INV : Wd → Prop} (hop : Op_setHole INV) {j : Nat} (hj : 6 * j + 6 ≤ SL) (hL : SL ≤ 3072) {w : Wd} (hI : INV w) (hnext : ∀ w2, INV w2 → LW p l e s m below meth c sb D cA 1338 [(0, .ref sb), (1, .ref (s.heap.size + 0)), (2, .ref (s.heap.size + 39)), (3, .int (nI (6 * j)))] [] (Nf 1) (Rf 1) w2 19967) : LW p l e s m below meth c sb D cA 425 [(0, .ref sb), (1, .ref (s.heap.size + 0)), (2, .ref (s.heap.size + 39)), (3, .int (nI (6 * j)))] [] (Nf 1) (Rf 1) w 19967 := by
  refine l_aload_n C 1 d_law_425 rfl ?_
  refine l_aload_n C 0 d_law_426 rfl ?_
  refine l_iload_n C 3 d_law_427 rfl ?_
  refine l_iconst C (v := 1) d_law_428 (by decide) ?_
  refine l_iadd C d_law_429 ?_
  refine l_sld C d_law_430 (ix_1 hj hL) ?_
  refine l_aload_n C 0 d_law_431 rfl ?_
  refine l_iload_n C 3 d_law_432 rfl ?_
  refine l_iconst C (v := 2) d_law_433 (by decide) ?_
  refine l_iadd C d_law_434 ?_
  refine l_sld C d_law_435 (ix_2 hj hL) ?_
  refine l_cI C (st := []) M_A_setHole [.int (xs (nI (6 * j) + 1).toNatClampNeg), .int (xs (nI (6 * j) + 2).toNatClampNeg)] d_law_436 lk_44 cv_A_setHole rfl rfl (Nf_58 (by decide)) rfl (Nat.le_of_ble_eq_true rfl) ⟨Nat.le_of_ble_eq_true rfl, Nat.le_of_ble_eq_true rfl⟩ ⟨rfl, rfl⟩ (Nat.le_refl _) (hop _ _ w hI) (fun x1 w1 h1 => ?_)
  refine l_aload_n C 2 d_law_439 rfl ?_
  refine l_aload_n C 0 d_law_440 rfl ?_
  refine l_iload_n C 3 d_law_441 rfl ?_
  refine l_iconst C (v := 1) d_law_442 (by decide) ?_
  refine l_iadd C d_law_443 ?_
  refine l_sld C d_law_444 (ix_1 hj hL) ?_
  refine l_aload_n C 0 d_law_445 rfl ?_
  refine l_iload_n C 3 d_law_446 rfl ?_
  refine l_iconst C (v := 2) d_law_447 (by decide) ?_
  refine l_iadd C d_law_448 ?_
  refine l_sld C d_law_449 (ix_2 hj hL) ?_
  refine l_cI C (st := [.int x1]) M_B_setHole [.int (xs (nI (6 * j) + 1).toNatClampNeg), .int (xs (nI (6 * j) + 2).toNatClampNeg)] d_law_450 lk_47 cv_B_setHole rfl rfl (Nf_58 (by decide)) rfl (Nat.le_of_ble_eq_true rfl) ⟨Nat.le_of_ble_eq_true rfl, Nat.le_of_ble_eq_true rfl⟩ ⟨rfl, rfl⟩ (Nat.le_refl _) h1 (fun x2 w2 h2 => ?_)
  refine l_icmp_eq C 1338 d_law_453 (by decide) (fun c0 => ?_) (fun c0 => absurd h2.1.symm c0)
  exact hnext w2 h2.2
theorem lc_8 {p : Program} {l : Launch} {e : Env} {s : State} {m : MethodId} {below : List Frame} {meth : Method} {c : Code} {sb SL : Nat} {xs : Nat → Int32} {D : va_G} {cA : Nat → ClassId} (C : LC p s m meth c sb SL xs D cA) {INV : Wd → Prop} (hop : Op_hole INV) {j : Nat} (hj : 6 * j + 6 ≤ SL) (hL : SL ≤ 3072) {w : Wd} (hI : INV w) (hnext : ∀ w2, INV w2 → LW p l e s m below meth c sb D cA 1338 [(0, .ref sb), (1, .ref (s.heap.size + 0)), (2, .ref (s.heap.size + 39)), (3, .int (nI (6 * j)))] [] (Nf 1) (Rf 1) w2 19967) : LW p l e s m below meth c sb D cA 458 [(0, .ref sb), (1, .ref (s.heap.size + 0)), (2, .ref (s.heap.size + 39)), (3, .int (nI (6 * j)))] [] (Nf 1) (Rf 1) w 19967 := by
  refine l_aload_n C 1 d_law_458 rfl ?_
  refine l_cL C (st := []) M_A_hole [] d_law_459 lk_48 cv_A_hole rfl rfl (Nf_58 (by decide)) rfl (Nat.le_of_ble_eq_true rfl) ⟨Nat.le_of_ble_eq_true rfl, Nat.le_of_ble_eq_true rfl⟩ ⟨rfl, rfl⟩ (Nat.le_refl _) (hop  w hI) (fun x1 w1 h1 => ?_)
  refine l_aload_n C 2 d_law_462 rfl ?_
  refine l_cL C (st := [.long x1]) M_B_hole [] d_law_463 lk_52 cv_B_hole rfl rfl (Nf_58 (by decide)) rfl (Nat.le_of_ble_eq_true rfl) ⟨Nat.le_of_ble_eq_true rfl, Nat.le_of_ble_eq_true rfl⟩ ⟨rfl, rfl⟩ (Nat.le_refl _) h1 (fun x2 w2 h2 => ?_)
  refine l_lcmp C d_law_466 ?_
  refine l_if_eq C 1338 d_law_467 (by decide) (fun c0 => ?_) (fun c0 => absurd ((lg_cmp_eq _ _).mpr h2.1.symm) c0)
  exact hnext w2 h2.2
theorem lc_9 {p : Program} {l : Launch} {e : Env} {s : State} {m : MethodId} {below : List Frame} {meth : Method} {c : Code} {sb SL : Nat} {xs : Nat → Int32} {D : va_G} {cA : Nat → ClassId} (C : LC p s m meth c sb SL xs D cA) {INV : Wd → Prop} (hop : Op_put INV) {j : Nat} (hj : 6 * j + 6 ≤ SL) (hL : SL ≤ 3072) {w : Wd} (hI : INV w) (hnext : ∀ w2, INV w2 → LW p l e s m below meth c sb D cA 1338 [(0, .ref sb), (1, .ref (s.heap.size + 0)), (2, .ref (s.heap.size + 39)), (3, .int (nI (6 * j)))] [] (Nf 1) (Rf 1) w2 19967) : LW p l e s m below meth c sb D cA 472 [(0, .ref sb), (1, .ref (s.heap.size + 0)), (2, .ref (s.heap.size + 39)), (3, .int (nI (6 * j)))] [] (Nf 1) (Rf 1) w 19967 := by
  refine l_aload_n C 1 d_law_472 rfl ?_
  refine l_aload_n C 0 d_law_473 rfl ?_
  refine l_iload_n C 3 d_law_474 rfl ?_
  refine l_iconst C (v := 1) d_law_475 (by decide) ?_
  refine l_iadd C d_law_476 ?_
  refine l_sld C d_law_477 (ix_1 hj hL) ?_
  refine l_aload_n C 0 d_law_478 rfl ?_
  refine l_iload_n C 3 d_law_479 rfl ?_
  refine l_iconst C (v := 2) d_law_480 (by decide) ?_
  refine l_iadd C d_law_481 ?_
  refine l_sld C d_law_482 (ix_2 hj hL) ?_
  refine l_cI C (st := []) M_A_put [.int (xs (nI (6 * j) + 1).toNatClampNeg), .int (xs (nI (6 * j) + 2).toNatClampNeg)] d_law_483 lk_53 cv_A_put rfl rfl (Nf_58 (by decide)) rfl (Nat.le_of_ble_eq_true rfl) ⟨Nat.le_of_ble_eq_true rfl, Nat.le_of_ble_eq_true rfl⟩ ⟨rfl, rfl⟩ (Nat.le_refl _) (hop _ _ w hI) (fun x1 w1 h1 => ?_)
  refine l_aload_n C 2 d_law_486 rfl ?_
  refine l_aload_n C 0 d_law_487 rfl ?_
  refine l_iload_n C 3 d_law_488 rfl ?_
  refine l_iconst C (v := 1) d_law_489 (by decide) ?_
  refine l_iadd C d_law_490 ?_
  refine l_sld C d_law_491 (ix_1 hj hL) ?_
  refine l_aload_n C 0 d_law_492 rfl ?_
  refine l_iload_n C 3 d_law_493 rfl ?_
  refine l_iconst C (v := 2) d_law_494 (by decide) ?_
  refine l_iadd C d_law_495 ?_
  refine l_sld C d_law_496 (ix_2 hj hL) ?_
  refine l_cI C (st := [.int x1]) M_B_put [.int (xs (nI (6 * j) + 1).toNatClampNeg), .int (xs (nI (6 * j) + 2).toNatClampNeg)] d_law_497 lk_56 cv_B_put rfl rfl (Nf_58 (by decide)) rfl (Nat.le_of_ble_eq_true rfl) ⟨Nat.le_of_ble_eq_true rfl, Nat.le_of_ble_eq_true rfl⟩ ⟨rfl, rfl⟩ (Nat.le_refl _) h1 (fun x2 w2 h2 => ?_)
  refine l_icmp_eq C 1338 d_law_500 (by decide) (fun c0 => ?_) (fun c0 => absurd h2.1.symm c0)
  exact hnext w2 h2.2
theorem lc_10 {p : Program} {l : Launch} {e : Env} {s : State} {m : MethodId} {below : List Frame} {meth : Method} {c : Code} {sb SL : Nat} {xs : Nat → Int32} {D : va_G} {cA : Nat → ClassId} (C : LC p s m meth c sb SL xs D cA) {INV : Wd → Prop} (hop : Op_take INV) {j : Nat} (hj : 6 * j + 6 ≤ SL) (hL : SL ≤ 3072) {w : Wd} (hI : INV w) (hnext : ∀ w2, INV w2 → LW p l e s m below meth c sb D cA 1338 [(0, .ref sb), (1, .ref (s.heap.size + 0)), (2, .ref (s.heap.size + 39)), (3, .int (nI (6 * j)))] [] (Nf 1) (Rf 1) w2 19967) : LW p l e s m below meth c sb D cA 505 [(0, .ref sb), (1, .ref (s.heap.size + 0)), (2, .ref (s.heap.size + 39)), (3, .int (nI (6 * j)))] [] (Nf 1) (Rf 1) w 19967 := by
  refine l_aload_n C 1 d_law_505 rfl ?_
  refine l_aload_n C 0 d_law_506 rfl ?_
  refine l_iload_n C 3 d_law_507 rfl ?_
  refine l_iconst C (v := 1) d_law_508 (by decide) ?_
  refine l_iadd C d_law_509 ?_
  refine l_sld C d_law_510 (ix_1 hj hL) ?_
  refine l_aload_n C 0 d_law_511 rfl ?_
  refine l_iload_n C 3 d_law_512 rfl ?_
  refine l_iconst C (v := 2) d_law_513 (by decide) ?_
  refine l_iadd C d_law_514 ?_
  refine l_sld C d_law_515 (ix_2 hj hL) ?_
  refine l_cI C (st := []) M_A_take [.int (xs (nI (6 * j) + 1).toNatClampNeg), .int (xs (nI (6 * j) + 2).toNatClampNeg)] d_law_516 lk_57 cv_A_take rfl rfl (Nf_58 (by decide)) rfl (Nat.le_of_ble_eq_true rfl) ⟨Nat.le_of_ble_eq_true rfl, Nat.le_of_ble_eq_true rfl⟩ ⟨rfl, rfl⟩ (Nat.le_refl _) (hop _ _ w hI) (fun x1 w1 h1 => ?_)
  refine l_aload_n C 2 d_law_519 rfl ?_
  refine l_aload_n C 0 d_law_520 rfl ?_
  refine l_iload_n C 3 d_law_521 rfl ?_
  refine l_iconst C (v := 1) d_law_522 (by decide) ?_
  refine l_iadd C d_law_523 ?_
  refine l_sld C d_law_524 (ix_1 hj hL) ?_
  refine l_aload_n C 0 d_law_525 rfl ?_
  refine l_iload_n C 3 d_law_526 rfl ?_
  refine l_iconst C (v := 2) d_law_527 (by decide) ?_
  refine l_iadd C d_law_528 ?_
  refine l_sld C d_law_529 (ix_2 hj hL) ?_
  refine l_cI C (st := [.int x1]) M_B_take [.int (xs (nI (6 * j) + 1).toNatClampNeg), .int (xs (nI (6 * j) + 2).toNatClampNeg)] d_law_530 lk_60 cv_B_take rfl rfl (Nf_58 (by decide)) rfl (Nat.le_of_ble_eq_true rfl) ⟨Nat.le_of_ble_eq_true rfl, Nat.le_of_ble_eq_true rfl⟩ ⟨rfl, rfl⟩ (Nat.le_refl _) h1 (fun x2 w2 h2 => ?_)
  refine l_icmp_eq C 1338 d_law_533 (by decide) (fun c0 => ?_) (fun c0 => absurd h2.1.symm c0)
  exact hnext w2 h2.2
theorem lc_11 {p : Program} {l : Launch} {e : Env} {s : State} {m : MethodId} {below : List Frame} {meth : Method} {c : Code} {sb SL : Nat} {xs : Nat → Int32} {D : va_G} {cA : Nat → ClassId} (C : LC p s m meth c sb SL xs D cA) {INV : Wd → Prop} (hop : Op_shift INV) {j : Nat} (hj : 6 * j + 6 ≤ SL) (hL : SL ≤ 3072) {w : Wd} (hI : INV w) (hnext : ∀ w2, INV w2 → LW p l e s m below meth c sb D cA 1338 [(0, .ref sb), (1, .ref (s.heap.size + 0)), (2, .ref (s.heap.size + 39)), (3, .int (nI (6 * j)))] [] (Nf 1) (Rf 1) w2 19967) : LW p l e s m below meth c sb D cA 538 [(0, .ref sb), (1, .ref (s.heap.size + 0)), (2, .ref (s.heap.size + 39)), (3, .int (nI (6 * j)))] [] (Nf 1) (Rf 1) w 19967 := by
  refine l_aload_n C 1 d_law_538 rfl ?_
  refine l_aload_n C 0 d_law_539 rfl ?_
  refine l_iload_n C 3 d_law_540 rfl ?_
  refine l_iconst C (v := 1) d_law_541 (by decide) ?_
  refine l_iadd C d_law_542 ?_
  refine l_sld C d_law_543 (ix_1 hj hL) ?_
  refine l_aload_n C 0 d_law_544 rfl ?_
  refine l_iload_n C 3 d_law_545 rfl ?_
  refine l_iconst C (v := 2) d_law_546 (by decide) ?_
  refine l_iadd C d_law_547 ?_
  refine l_sld C d_law_548 (ix_2 hj hL) ?_
  refine l_cI C (st := []) M_A_shift [.int (xs (nI (6 * j) + 1).toNatClampNeg), .int (xs (nI (6 * j) + 2).toNatClampNeg)] d_law_549 lk_61 cv_A_shift rfl rfl (Nf_58 (by decide)) rfl (Nat.le_of_ble_eq_true rfl) ⟨Nat.le_of_ble_eq_true rfl, Nat.le_of_ble_eq_true rfl⟩ ⟨rfl, rfl⟩ (Nat.le_refl _) (hop _ _ w hI) (fun x1 w1 h1 => ?_)
  refine l_aload_n C 2 d_law_552 rfl ?_
  refine l_aload_n C 0 d_law_553 rfl ?_
  refine l_iload_n C 3 d_law_554 rfl ?_
  refine l_iconst C (v := 1) d_law_555 (by decide) ?_
  refine l_iadd C d_law_556 ?_
  refine l_sld C d_law_557 (ix_1 hj hL) ?_
  refine l_aload_n C 0 d_law_558 rfl ?_
  refine l_iload_n C 3 d_law_559 rfl ?_
  refine l_iconst C (v := 2) d_law_560 (by decide) ?_
  refine l_iadd C d_law_561 ?_
  refine l_sld C d_law_562 (ix_2 hj hL) ?_
  refine l_cI C (st := [.int x1]) M_B_shift [.int (xs (nI (6 * j) + 1).toNatClampNeg), .int (xs (nI (6 * j) + 2).toNatClampNeg)] d_law_563 lk_64 cv_B_shift rfl rfl (Nf_58 (by decide)) rfl (Nat.le_of_ble_eq_true rfl) ⟨Nat.le_of_ble_eq_true rfl, Nat.le_of_ble_eq_true rfl⟩ ⟨rfl, rfl⟩ (Nat.le_refl _) h1 (fun x2 w2 h2 => ?_)
  refine l_icmp_eq C 1338 d_law_566 (by decide) (fun c0 => ?_) (fun c0 => absurd h2.1.symm c0)
  exact hnext w2 h2.2
theorem lc_12 {p : Program} {l : Launch} {e : Env} {s : State} {m : MethodId} {below : List Frame} {meth : Method} {c : Code} {sb SL : Nat} {xs : Nat → Int32} {D : va_G} {cA : Nat → ClassId} (C : LC p s m meth c sb SL xs D cA) {INV : Wd → Prop} (hop : Op_apply INV) {j : Nat} (hj : 6 * j + 6 ≤ SL) (hL : SL ≤ 3072) {w : Wd} (hI : INV w) (hnext : ∀ w2, INV w2 → LW p l e s m below meth c sb D cA 1338 [(0, .ref sb), (1, .ref (s.heap.size + 0)), (2, .ref (s.heap.size + 39)), (3, .int (nI (6 * j)))] [] (Nf 1) (Rf 1) w2 19967) : LW p l e s m below meth c sb D cA 571 [(0, .ref sb), (1, .ref (s.heap.size + 0)), (2, .ref (s.heap.size + 39)), (3, .int (nI (6 * j)))] [] (Nf 1) (Rf 1) w 19967 := by
  refine l_aload_n C 1 d_law_571 rfl ?_
  refine l_aload_n C 0 d_law_572 rfl ?_
  refine l_iload_n C 3 d_law_573 rfl ?_
  refine l_iconst C (v := 1) d_law_574 (by decide) ?_
  refine l_iadd C d_law_575 ?_
  refine l_sld C d_law_576 (ix_1 hj hL) ?_
  refine l_cI C (st := []) M_A_apply [.int (xs (nI (6 * j) + 1).toNatClampNeg)] d_law_577 lk_65 cv_A_apply rfl rfl (Nf_58 (by decide)) rfl (Nat.le_of_ble_eq_true rfl) ⟨Nat.le_of_ble_eq_true rfl, Nat.le_of_ble_eq_true rfl⟩ ⟨rfl, rfl⟩ (Nat.le_refl _) (hop _ w hI) (fun x1 w1 h1 => ?_)
  refine l_aload_n C 2 d_law_580 rfl ?_
  refine l_aload_n C 0 d_law_581 rfl ?_
  refine l_iload_n C 3 d_law_582 rfl ?_
  refine l_iconst C (v := 1) d_law_583 (by decide) ?_
  refine l_iadd C d_law_584 ?_
  refine l_sld C d_law_585 (ix_1 hj hL) ?_
  refine l_cI C (st := [.int x1]) M_B_apply [.int (xs (nI (6 * j) + 1).toNatClampNeg)] d_law_586 lk_68 cv_B_apply rfl rfl (Nf_58 (by decide)) rfl (Nat.le_of_ble_eq_true rfl) ⟨Nat.le_of_ble_eq_true rfl, Nat.le_of_ble_eq_true rfl⟩ ⟨rfl, rfl⟩ (Nat.le_refl _) h1 (fun x2 w2 h2 => ?_)
  refine l_icmp_eq C 1338 d_law_589 (by decide) (fun c0 => ?_) (fun c0 => absurd h2.1.symm c0)
  exact hnext w2 h2.2
theorem lc_13 {p : Program} {l : Launch} {e : Env} {s : State} {m : MethodId} {below : List Frame} {meth : Method} {c : Code} {sb SL : Nat} {xs : Nat → Int32} {D : va_G} {cA : Nat → ClassId} (C : LC p s m meth c sb SL xs D cA) {INV : Wd → Prop} (hop : Op_multiply INV) {j : Nat} (hj : 6 * j + 6 ≤ SL) (hL : SL ≤ 3072) {w : Wd} (hI : INV w) (hnext : ∀ w2, INV w2 → LW p l e s m below meth c sb D cA 1338 [(0, .ref sb), (1, .ref (s.heap.size + 0)), (2, .ref (s.heap.size + 39)), (3, .int (nI (6 * j)))] [] (Nf 1) (Rf 1) w2 19967) : LW p l e s m below meth c sb D cA 594 [(0, .ref sb), (1, .ref (s.heap.size + 0)), (2, .ref (s.heap.size + 39)), (3, .int (nI (6 * j)))] [] (Nf 1) (Rf 1) w 19967 := by
  refine l_aload_n C 1 d_law_594 rfl ?_
  refine l_aload_n C 0 d_law_595 rfl ?_
  refine l_iload_n C 3 d_law_596 rfl ?_
  refine l_iconst C (v := 1) d_law_597 (by decide) ?_
  refine l_iadd C d_law_598 ?_
  refine l_sld C d_law_599 (ix_1 hj hL) ?_
  refine l_cI C (st := []) M_A_multiply [.int (xs (nI (6 * j) + 1).toNatClampNeg)] d_law_600 lk_69 cv_A_multiply rfl rfl (Nf_58 (by decide)) rfl (Nat.le_of_ble_eq_true rfl) ⟨Nat.le_of_ble_eq_true rfl, Nat.le_of_ble_eq_true rfl⟩ ⟨rfl, rfl⟩ (Nat.le_refl _) (hop _ w hI) (fun x1 w1 h1 => ?_)
  refine l_aload_n C 2 d_law_603 rfl ?_
  refine l_aload_n C 0 d_law_604 rfl ?_
  refine l_iload_n C 3 d_law_605 rfl ?_
  refine l_iconst C (v := 1) d_law_606 (by decide) ?_
  refine l_iadd C d_law_607 ?_
  refine l_sld C d_law_608 (ix_1 hj hL) ?_
  refine l_cI C (st := [.int x1]) M_B_multiply [.int (xs (nI (6 * j) + 1).toNatClampNeg)] d_law_609 lk_72 cv_B_multiply rfl rfl (Nf_58 (by decide)) rfl (Nat.le_of_ble_eq_true rfl) ⟨Nat.le_of_ble_eq_true rfl, Nat.le_of_ble_eq_true rfl⟩ ⟨rfl, rfl⟩ (Nat.le_refl _) h1 (fun x2 w2 h2 => ?_)
  refine l_icmp_eq C 1338 d_law_612 (by decide) (fun c0 => ?_) (fun c0 => absurd h2.1.symm c0)
  exact hnext w2 h2.2
theorem lc_14 {p : Program} {l : Launch} {e : Env} {s : State} {m : MethodId} {below : List Frame} {meth : Method} {c : Code} {sb SL : Nat} {xs : Nat → Int32} {D : va_G} {cA : Nat → ClassId} (C : LC p s m meth c sb SL xs D cA) {INV : Wd → Prop} (hop : Op_exchange INV) {j : Nat} (hj : 6 * j + 6 ≤ SL) (hL : SL ≤ 3072) {w : Wd} (hI : INV w) (hnext : ∀ w2, INV w2 → LW p l e s m below meth c sb D cA 1338 [(0, .ref sb), (1, .ref (s.heap.size + 0)), (2, .ref (s.heap.size + 39)), (3, .int (nI (6 * j)))] [] (Nf 1) (Rf 1) w2 19967) : LW p l e s m below meth c sb D cA 617 [(0, .ref sb), (1, .ref (s.heap.size + 0)), (2, .ref (s.heap.size + 39)), (3, .int (nI (6 * j)))] [] (Nf 1) (Rf 1) w 19967 := by
  refine l_aload_n C 1 d_law_617 rfl ?_
  refine l_aload_n C 0 d_law_618 rfl ?_
  refine l_iload_n C 3 d_law_619 rfl ?_
  refine l_iconst C (v := 1) d_law_620 (by decide) ?_
  refine l_iadd C d_law_621 ?_
  refine l_sld C d_law_622 (ix_1 hj hL) ?_
  refine l_aload_n C 0 d_law_623 rfl ?_
  refine l_iload_n C 3 d_law_624 rfl ?_
  refine l_iconst C (v := 2) d_law_625 (by decide) ?_
  refine l_iadd C d_law_626 ?_
  refine l_sld C d_law_627 (ix_2 hj hL) ?_
  refine l_aload_n C 0 d_law_628 rfl ?_
  refine l_iload_n C 3 d_law_629 rfl ?_
  refine l_iconst C (v := 3) d_law_630 (by decide) ?_
  refine l_iadd C d_law_631 ?_
  refine l_sld C d_law_632 (ix_3 hj hL) ?_
  refine l_cI C (st := []) M_A_exchange [.int (xs (nI (6 * j) + 1).toNatClampNeg), .int (xs (nI (6 * j) + 2).toNatClampNeg), .int (xs (nI (6 * j) + 3).toNatClampNeg)] d_law_633 lk_73 cv_A_exchange rfl rfl (Nf_58 (by decide)) rfl (Nat.le_of_ble_eq_true rfl) ⟨Nat.le_of_ble_eq_true rfl, Nat.le_of_ble_eq_true rfl⟩ ⟨rfl, rfl⟩ (Nat.le_refl _) (hop _ _ _ w hI) (fun x1 w1 h1 => ?_)
  refine l_aload_n C 2 d_law_636 rfl ?_
  refine l_aload_n C 0 d_law_637 rfl ?_
  refine l_iload_n C 3 d_law_638 rfl ?_
  refine l_iconst C (v := 1) d_law_639 (by decide) ?_
  refine l_iadd C d_law_640 ?_
  refine l_sld C d_law_641 (ix_1 hj hL) ?_
  refine l_aload_n C 0 d_law_642 rfl ?_
  refine l_iload_n C 3 d_law_643 rfl ?_
  refine l_iconst C (v := 2) d_law_644 (by decide) ?_
  refine l_iadd C d_law_645 ?_
  refine l_sld C d_law_646 (ix_2 hj hL) ?_
  refine l_aload_n C 0 d_law_647 rfl ?_
  refine l_iload_n C 3 d_law_648 rfl ?_
  refine l_iconst C (v := 3) d_law_649 (by decide) ?_
  refine l_iadd C d_law_650 ?_
  refine l_sld C d_law_651 (ix_3 hj hL) ?_
  refine l_cI C (st := [.int x1]) M_B_exchange [.int (xs (nI (6 * j) + 1).toNatClampNeg), .int (xs (nI (6 * j) + 2).toNatClampNeg), .int (xs (nI (6 * j) + 3).toNatClampNeg)] d_law_652 lk_77 cv_B_exchange rfl rfl (Nf_58 (by decide)) rfl (Nat.le_of_ble_eq_true rfl) ⟨Nat.le_of_ble_eq_true rfl, Nat.le_of_ble_eq_true rfl⟩ ⟨rfl, rfl⟩ (Nat.le_refl _) h1 (fun x2 w2 h2 => ?_)
  refine l_icmp_eq C 1338 d_law_655 (by decide) (fun c0 => ?_) (fun c0 => absurd h2.1.symm c0)
  exact hnext w2 h2.2
theorem lc_15 {p : Program} {l : Launch} {e : Env} {s : State} {m : MethodId} {below : List Frame} {meth : Method} {c : Code} {sb SL : Nat} {xs : Nat → Int32} {D : va_G} {cA : Nat → ClassId} (C : LC p s m meth c sb SL xs D cA) {INV : Wd → Prop} (hop : Op_improve INV) {j : Nat} (hj : 6 * j + 6 ≤ SL) (hL : SL ≤ 3072) {w : Wd} (hI : INV w) (hnext : ∀ w2, INV w2 → LW p l e s m below meth c sb D cA 1338 [(0, .ref sb), (1, .ref (s.heap.size + 0)), (2, .ref (s.heap.size + 39)), (3, .int (nI (6 * j)))] [] (Nf 1) (Rf 1) w2 19967) : LW p l e s m below meth c sb D cA 660 [(0, .ref sb), (1, .ref (s.heap.size + 0)), (2, .ref (s.heap.size + 39)), (3, .int (nI (6 * j)))] [] (Nf 1) (Rf 1) w 19967 := by
  refine l_aload_n C 1 d_law_660 rfl ?_
  refine l_aload_n C 0 d_law_661 rfl ?_
  refine l_iload_n C 3 d_law_662 rfl ?_
  refine l_iconst C (v := 1) d_law_663 (by decide) ?_
  refine l_iadd C d_law_664 ?_
  refine l_sld C d_law_665 (ix_1 hj hL) ?_
  refine l_cI C (st := []) M_A_improve [.int (xs (nI (6 * j) + 1).toNatClampNeg)] d_law_666 lk_78 cv_A_improve rfl rfl (Nf_58 (by decide)) rfl (Nat.le_of_ble_eq_true rfl) ⟨Nat.le_of_ble_eq_true rfl, Nat.le_of_ble_eq_true rfl⟩ ⟨rfl, rfl⟩ (Nat.le_refl _) (hop _ w hI) (fun x1 w1 h1 => ?_)
  refine l_aload_n C 2 d_law_669 rfl ?_
  refine l_aload_n C 0 d_law_670 rfl ?_
  refine l_iload_n C 3 d_law_671 rfl ?_
  refine l_iconst C (v := 1) d_law_672 (by decide) ?_
  refine l_iadd C d_law_673 ?_
  refine l_sld C d_law_674 (ix_1 hj hL) ?_
  refine l_cI C (st := [.int x1]) M_B_improve [.int (xs (nI (6 * j) + 1).toNatClampNeg)] d_law_675 lk_81 cv_B_improve rfl rfl (Nf_58 (by decide)) rfl (Nat.le_of_ble_eq_true rfl) ⟨Nat.le_of_ble_eq_true rfl, Nat.le_of_ble_eq_true rfl⟩ ⟨rfl, rfl⟩ (Nat.le_refl _) h1 (fun x2 w2 h2 => ?_)
  refine l_icmp_eq C 1338 d_law_678 (by decide) (fun c0 => ?_) (fun c0 => absurd h2.1.symm c0)
  exact hnext w2 h2.2
theorem lc_16 {p : Program} {l : Launch} {e : Env} {s : State} {m : MethodId} {below : List Frame} {meth : Method} {c : Code} {sb SL : Nat} {xs : Nat → Int32} {D : va_G} {cA : Nat → ClassId} (C : LC p s m meth c sb SL xs D cA) {INV : Wd → Prop} (hop : Op_undo INV) {j : Nat} (hj : 6 * j + 6 ≤ SL) (hL : SL ≤ 3072) {w : Wd} (hI : INV w) (hnext : ∀ w2, INV w2 → LW p l e s m below meth c sb D cA 1338 [(0, .ref sb), (1, .ref (s.heap.size + 0)), (2, .ref (s.heap.size + 39)), (3, .int (nI (6 * j)))] [] (Nf 1) (Rf 1) w2 19967) : LW p l e s m below meth c sb D cA 683 [(0, .ref sb), (1, .ref (s.heap.size + 0)), (2, .ref (s.heap.size + 39)), (3, .int (nI (6 * j)))] [] (Nf 1) (Rf 1) w 19967 := by
  refine l_aload_n C 1 d_law_683 rfl ?_
  refine l_cI C (st := []) M_A_undo [] d_law_684 lk_82 cv_A_undo rfl rfl (Nf_58 (by decide)) rfl (Nat.le_of_ble_eq_true rfl) ⟨Nat.le_of_ble_eq_true rfl, Nat.le_of_ble_eq_true rfl⟩ ⟨rfl, rfl⟩ (Nat.le_refl _) (hop  w hI) (fun x1 w1 h1 => ?_)
  refine l_aload_n C 2 d_law_687 rfl ?_
  refine l_cI C (st := [.int x1]) M_B_undo [] d_law_688 lk_85 cv_B_undo rfl rfl (Nf_58 (by decide)) rfl (Nat.le_of_ble_eq_true rfl) ⟨Nat.le_of_ble_eq_true rfl, Nat.le_of_ble_eq_true rfl⟩ ⟨rfl, rfl⟩ (Nat.le_refl _) h1 (fun x2 w2 h2 => ?_)
  refine l_icmp_eq C 1338 d_law_691 (by decide) (fun c0 => ?_) (fun c0 => absurd h2.1.symm c0)
  exact hnext w2 h2.2
theorem lc_17 {p : Program} {l : Launch} {e : Env} {s : State} {m : MethodId} {below : List Frame} {meth : Method} {c : Code} {sb SL : Nat} {xs : Nat → Int32} {D : va_G} {cA : Nat → ClassId} (C : LC p s m meth c sb SL xs D cA) {INV : Wd → Prop} (hop : Op_block INV) {j : Nat} (hj : 6 * j + 6 ≤ SL) (hL : SL ≤ 3072) {w : Wd} (hI : INV w) (hnext : ∀ w2, INV w2 → LW p l e s m below meth c sb D cA 1338 [(0, .ref sb), (1, .ref (s.heap.size + 0)), (2, .ref (s.heap.size + 39)), (3, .int (nI (6 * j)))] [] (Nf 1) (Rf 1) w2 19967) : LW p l e s m below meth c sb D cA 696 [(0, .ref sb), (1, .ref (s.heap.size + 0)), (2, .ref (s.heap.size + 39)), (3, .int (nI (6 * j)))] [] (Nf 1) (Rf 1) w 19967 := by
  refine l_aload_n C 1 d_law_696 rfl ?_
  refine l_aload_n C 0 d_law_697 rfl ?_
  refine l_iload_n C 3 d_law_698 rfl ?_
  refine l_iconst C (v := 1) d_law_699 (by decide) ?_
  refine l_iadd C d_law_700 ?_
  refine l_sld C d_law_701 (ix_1 hj hL) ?_
  refine l_cL C (st := []) M_A_block [.int (xs (nI (6 * j) + 1).toNatClampNeg)] d_law_702 lk_86 cv_A_block rfl rfl (Nf_58 (by decide)) rfl (Nat.le_of_ble_eq_true rfl) ⟨Nat.le_of_ble_eq_true rfl, Nat.le_of_ble_eq_true rfl⟩ ⟨rfl, rfl⟩ (Nat.le_refl _) (hop _ w hI) (fun x1 w1 h1 => ?_)
  refine l_aload_n C 2 d_law_705 rfl ?_
  refine l_aload_n C 0 d_law_706 rfl ?_
  refine l_iload_n C 3 d_law_707 rfl ?_
  refine l_iconst C (v := 1) d_law_708 (by decide) ?_
  refine l_iadd C d_law_709 ?_
  refine l_sld C d_law_710 (ix_1 hj hL) ?_
  refine l_cL C (st := [.long x1]) M_B_block [.int (xs (nI (6 * j) + 1).toNatClampNeg)] d_law_711 lk_90 cv_B_block rfl rfl (Nf_58 (by decide)) rfl (Nat.le_of_ble_eq_true rfl) ⟨Nat.le_of_ble_eq_true rfl, Nat.le_of_ble_eq_true rfl⟩ ⟨rfl, rfl⟩ (Nat.le_refl _) h1 (fun x2 w2 h2 => ?_)
  refine l_lcmp C d_law_714 ?_
  refine l_if_eq C 1338 d_law_715 (by decide) (fun c0 => ?_) (fun c0 => absurd ((lg_cmp_eq _ _).mpr h2.1.symm) c0)
  exact hnext w2 h2.2
theorem lc_18 {p : Program} {l : Launch} {e : Env} {s : State} {m : MethodId} {below : List Frame} {meth : Method} {c : Code} {sb SL : Nat} {xs : Nat → Int32} {D : va_G} {cA : Nat → ClassId} (C : LC p s m meth c sb SL xs D cA) {INV : Wd → Prop} (hop : Op_normal INV) {j : Nat} (hj : 6 * j + 6 ≤ SL) (hL : SL ≤ 3072) {w : Wd} (hI : INV w) (hnext : ∀ w2, INV w2 → LW p l e s m below meth c sb D cA 1338 [(0, .ref sb), (1, .ref (s.heap.size + 0)), (2, .ref (s.heap.size + 39)), (3, .int (nI (6 * j)))] [] (Nf 1) (Rf 1) w2 19967) : LW p l e s m below meth c sb D cA 720 [(0, .ref sb), (1, .ref (s.heap.size + 0)), (2, .ref (s.heap.size + 39)), (3, .int (nI (6 * j)))] [] (Nf 1) (Rf 1) w 19967 := by
  refine l_aload_n C 1 d_law_720 rfl ?_
  refine l_aload_n C 0 d_law_721 rfl ?_
  refine l_iload_n C 3 d_law_722 rfl ?_
  refine l_iconst C (v := 1) d_law_723 (by decide) ?_
  refine l_iadd C d_law_724 ?_
  refine l_sld C d_law_725 (ix_1 hj hL) ?_
  refine l_cL C (st := []) M_A_normal [.int (xs (nI (6 * j) + 1).toNatClampNeg)] d_law_726 lk_91 cv_A_normal rfl rfl (Nf_58 (by decide)) rfl (Nat.le_of_ble_eq_true rfl) ⟨Nat.le_of_ble_eq_true rfl, Nat.le_of_ble_eq_true rfl⟩ ⟨rfl, rfl⟩ (Nat.le_refl _) (hop _ w hI) (fun x1 w1 h1 => ?_)
  refine l_aload_n C 2 d_law_729 rfl ?_
  refine l_aload_n C 0 d_law_730 rfl ?_
  refine l_iload_n C 3 d_law_731 rfl ?_
  refine l_iconst C (v := 1) d_law_732 (by decide) ?_
  refine l_iadd C d_law_733 ?_
  refine l_sld C d_law_734 (ix_1 hj hL) ?_
  refine l_cL C (st := [.long x1]) M_B_normal [.int (xs (nI (6 * j) + 1).toNatClampNeg)] d_law_735 lk_94 cv_B_normal rfl rfl (Nf_58 (by decide)) rfl (Nat.le_of_ble_eq_true rfl) ⟨Nat.le_of_ble_eq_true rfl, Nat.le_of_ble_eq_true rfl⟩ ⟨rfl, rfl⟩ (Nat.le_refl _) h1 (fun x2 w2 h2 => ?_)
  refine l_lcmp C d_law_738 ?_
  refine l_if_eq C 1338 d_law_739 (by decide) (fun c0 => ?_) (fun c0 => absurd ((lg_cmp_eq _ _).mpr h2.1.symm) c0)
  exact hnext w2 h2.2
theorem lc_19 {p : Program} {l : Launch} {e : Env} {s : State} {m : MethodId} {below : List Frame} {meth : Method} {c : Code} {sb SL : Nat} {xs : Nat → Int32} {D : va_G} {cA : Nat → ClassId} (C : LC p s m meth c sb SL xs D cA) {INV : Wd → Prop} (hop : Op_stabilizer INV) {j : Nat} (hj : 6 * j + 6 ≤ SL) (hL : SL ≤ 3072) {w : Wd} (hI : INV w) (hnext : ∀ w2, INV w2 → LW p l e s m below meth c sb D cA 1338 [(0, .ref sb), (1, .ref (s.heap.size + 0)), (2, .ref (s.heap.size + 39)), (3, .int (nI (6 * j)))] [] (Nf 1) (Rf 1) w2 19967) : LW p l e s m below meth c sb D cA 744 [(0, .ref sb), (1, .ref (s.heap.size + 0)), (2, .ref (s.heap.size + 39)), (3, .int (nI (6 * j)))] [] (Nf 1) (Rf 1) w 19967 := by
  refine l_aload_n C 1 d_law_744 rfl ?_
  refine l_aload_n C 0 d_law_745 rfl ?_
  refine l_iload_n C 3 d_law_746 rfl ?_
  refine l_iconst C (v := 1) d_law_747 (by decide) ?_
  refine l_iadd C d_law_748 ?_
  refine l_sld C d_law_749 (ix_1 hj hL) ?_
  refine l_cI C (st := []) M_A_stabilizer [.int (xs (nI (6 * j) + 1).toNatClampNeg)] d_law_750 lk_95 cv_A_stabilizer rfl rfl (Nf_58 (by decide)) rfl (Nat.le_of_ble_eq_true rfl) ⟨Nat.le_of_ble_eq_true rfl, Nat.le_of_ble_eq_true rfl⟩ ⟨rfl, rfl⟩ (Nat.le_refl _) (hop _ w hI) (fun x1 w1 h1 => ?_)
  refine l_aload_n C 2 d_law_753 rfl ?_
  refine l_aload_n C 0 d_law_754 rfl ?_
  refine l_iload_n C 3 d_law_755 rfl ?_
  refine l_iconst C (v := 1) d_law_756 (by decide) ?_
  refine l_iadd C d_law_757 ?_
  refine l_sld C d_law_758 (ix_1 hj hL) ?_
  refine l_cI C (st := [.int x1]) M_B_stabilizer [.int (xs (nI (6 * j) + 1).toNatClampNeg)] d_law_759 lk_98 cv_B_stabilizer rfl rfl (Nf_58 (by decide)) rfl (Nat.le_of_ble_eq_true rfl) ⟨Nat.le_of_ble_eq_true rfl, Nat.le_of_ble_eq_true rfl⟩ ⟨rfl, rfl⟩ (Nat.le_refl _) h1 (fun x2 w2 h2 => ?_)
  refine l_icmp_eq C 1338 d_law_762 (by decide) (fun c0 => ?_) (fun c0 => absurd h2.1.symm c0)
  exact hnext w2 h2.2
theorem lc_20 {p : Program} {l : Launch} {e : Env} {s : State} {m : MethodId} {below : List Frame} {meth : Method} {c : Code} {sb SL : Nat} {xs : Nat → Int32} {D : va_G} {cA : Nat → ClassId} (C : LC p s m meth c sb SL xs D cA) {INV : Wd → Prop} (hop : Op_blockSize INV) {j : Nat} (hj : 6 * j + 6 ≤ SL) (hL : SL ≤ 3072) {w : Wd} (hI : INV w) (hnext : ∀ w2, INV w2 → LW p l e s m below meth c sb D cA 1338 [(0, .ref sb), (1, .ref (s.heap.size + 0)), (2, .ref (s.heap.size + 39)), (3, .int (nI (6 * j)))] [] (Nf 1) (Rf 1) w2 19967) : LW p l e s m below meth c sb D cA 767 [(0, .ref sb), (1, .ref (s.heap.size + 0)), (2, .ref (s.heap.size + 39)), (3, .int (nI (6 * j)))] [] (Nf 1) (Rf 1) w 19967 := by
  refine l_aload_n C 1 d_law_767 rfl ?_
  refine l_cI C (st := []) M_A_blockSize [] d_law_768 lk_99 cv_A_blockSize rfl rfl (Nf_58 (by decide)) rfl (Nat.le_of_ble_eq_true rfl) ⟨Nat.le_of_ble_eq_true rfl, Nat.le_of_ble_eq_true rfl⟩ ⟨rfl, rfl⟩ (Nat.le_refl _) (hop  w hI) (fun x1 w1 h1 => ?_)
  refine l_aload_n C 2 d_law_771 rfl ?_
  refine l_cI C (st := [.int x1]) M_B_blockSize [] d_law_772 lk_102 cv_B_blockSize rfl rfl (Nf_58 (by decide)) rfl (Nat.le_of_ble_eq_true rfl) ⟨Nat.le_of_ble_eq_true rfl, Nat.le_of_ble_eq_true rfl⟩ ⟨rfl, rfl⟩ (Nat.le_refl _) h1 (fun x2 w2 h2 => ?_)
  refine l_icmp_eq C 1338 d_law_775 (by decide) (fun c0 => ?_) (fun c0 => absurd h2.1.symm c0)
  exact hnext w2 h2.2
theorem lc_21 {p : Program} {l : Launch} {e : Env} {s : State} {m : MethodId} {below : List Frame} {meth : Method} {c : Code} {sb SL : Nat} {xs : Nat → Int32} {D : va_G} {cA : Nat → ClassId} (C : LC p s m meth c sb SL xs D cA) {INV : Wd → Prop} (hop : Op_count INV) {j : Nat} (hj : 6 * j + 6 ≤ SL) (hL : SL ≤ 3072) {w : Wd} (hI : INV w) (hnext : ∀ w2, INV w2 → LW p l e s m below meth c sb D cA 1338 [(0, .ref sb), (1, .ref (s.heap.size + 0)), (2, .ref (s.heap.size + 39)), (3, .int (nI (6 * j)))] [] (Nf 1) (Rf 1) w2 19967) : LW p l e s m below meth c sb D cA 780 [(0, .ref sb), (1, .ref (s.heap.size + 0)), (2, .ref (s.heap.size + 39)), (3, .int (nI (6 * j)))] [] (Nf 1) (Rf 1) w 19967 := by
  refine l_aload_n C 1 d_law_780 rfl ?_
  refine l_aload_n C 0 d_law_781 rfl ?_
  refine l_iload_n C 3 d_law_782 rfl ?_
  refine l_iconst C (v := 1) d_law_783 (by decide) ?_
  refine l_iadd C d_law_784 ?_
  refine l_sld C d_law_785 (ix_1 hj hL) ?_
  refine l_cI C (st := []) M_A_count [.int (xs (nI (6 * j) + 1).toNatClampNeg)] d_law_786 lk_103 cv_A_count rfl rfl (Nf_58 (by decide)) rfl (Nat.le_of_ble_eq_true rfl) ⟨Nat.le_of_ble_eq_true rfl, Nat.le_of_ble_eq_true rfl⟩ ⟨rfl, rfl⟩ (Nat.le_refl _) (hop _ w hI) (fun x1 w1 h1 => ?_)
  refine l_aload_n C 2 d_law_789 rfl ?_
  refine l_aload_n C 0 d_law_790 rfl ?_
  refine l_iload_n C 3 d_law_791 rfl ?_
  refine l_iconst C (v := 1) d_law_792 (by decide) ?_
  refine l_iadd C d_law_793 ?_
  refine l_sld C d_law_794 (ix_1 hj hL) ?_
  refine l_cI C (st := [.int x1]) M_B_count [.int (xs (nI (6 * j) + 1).toNatClampNeg)] d_law_795 lk_106 cv_B_count rfl rfl (Nf_58 (by decide)) rfl (Nat.le_of_ble_eq_true rfl) ⟨Nat.le_of_ble_eq_true rfl, Nat.le_of_ble_eq_true rfl⟩ ⟨rfl, rfl⟩ (Nat.le_refl _) h1 (fun x2 w2 h2 => ?_)
  refine l_icmp_eq C 1338 d_law_798 (by decide) (fun c0 => ?_) (fun c0 => absurd h2.1.symm c0)
  exact hnext w2 h2.2
theorem lc_22 {p : Program} {l : Launch} {e : Env} {s : State} {m : MethodId} {below : List Frame} {meth : Method} {c : Code} {sb SL : Nat} {xs : Nat → Int32} {D : va_G} {cA : Nat → ClassId} (C : LC p s m meth c sb SL xs D cA) {INV : Wd → Prop} (hop : Op_covered INV) {j : Nat} (hj : 6 * j + 6 ≤ SL) (hL : SL ≤ 3072) {w : Wd} (hI : INV w) (hnext : ∀ w2, INV w2 → LW p l e s m below meth c sb D cA 1338 [(0, .ref sb), (1, .ref (s.heap.size + 0)), (2, .ref (s.heap.size + 39)), (3, .int (nI (6 * j)))] [] (Nf 1) (Rf 1) w2 19967) : LW p l e s m below meth c sb D cA 803 [(0, .ref sb), (1, .ref (s.heap.size + 0)), (2, .ref (s.heap.size + 39)), (3, .int (nI (6 * j)))] [] (Nf 1) (Rf 1) w 19967 := by
  refine l_aload_n C 1 d_law_803 rfl ?_
  refine l_cI C (st := []) M_A_covered [] d_law_804 lk_107 cv_A_covered rfl rfl (Nf_58 (by decide)) rfl (Nat.le_of_ble_eq_true rfl) ⟨Nat.le_of_ble_eq_true rfl, Nat.le_of_ble_eq_true rfl⟩ ⟨rfl, rfl⟩ (Nat.le_refl _) (hop  w hI) (fun x1 w1 h1 => ?_)
  refine l_aload_n C 2 d_law_807 rfl ?_
  refine l_cI C (st := [.int x1]) M_B_covered [] d_law_808 lk_110 cv_B_covered rfl rfl (Nf_58 (by decide)) rfl (Nat.le_of_ble_eq_true rfl) ⟨Nat.le_of_ble_eq_true rfl, Nat.le_of_ble_eq_true rfl⟩ ⟨rfl, rfl⟩ (Nat.le_refl _) h1 (fun x2 w2 h2 => ?_)
  refine l_icmp_eq C 1338 d_law_811 (by decide) (fun c0 => ?_) (fun c0 => absurd h2.1.symm c0)
  exact hnext w2 h2.2
theorem lc_23 {p : Program} {l : Launch} {e : Env} {s : State} {m : MethodId} {below : List Frame} {meth : Method} {c : Code} {sb SL : Nat} {xs : Nat → Int32} {D : va_G} {cA : Nat → ClassId} (C : LC p s m meth c sb SL xs D cA) {INV : Wd → Prop} (hop : Op_greatestCount INV) {j : Nat} (hj : 6 * j + 6 ≤ SL) (hL : SL ≤ 3072) {w : Wd} (hI : INV w) (hnext : ∀ w2, INV w2 → LW p l e s m below meth c sb D cA 1338 [(0, .ref sb), (1, .ref (s.heap.size + 0)), (2, .ref (s.heap.size + 39)), (3, .int (nI (6 * j)))] [] (Nf 1) (Rf 1) w2 19967) : LW p l e s m below meth c sb D cA 816 [(0, .ref sb), (1, .ref (s.heap.size + 0)), (2, .ref (s.heap.size + 39)), (3, .int (nI (6 * j)))] [] (Nf 1) (Rf 1) w 19967 := by
  refine l_aload_n C 1 d_law_816 rfl ?_
  refine l_cI C (st := []) M_A_greatestCount [] d_law_817 lk_111 cv_A_greatestCount rfl rfl (Nf_58 (by decide)) rfl (Nat.le_of_ble_eq_true rfl) ⟨Nat.le_of_ble_eq_true rfl, Nat.le_of_ble_eq_true rfl⟩ ⟨rfl, rfl⟩ (Nat.le_refl _) (hop  w hI) (fun x1 w1 h1 => ?_)
  refine l_aload_n C 2 d_law_820 rfl ?_
  refine l_cI C (st := [.int x1]) M_B_greatestCount [] d_law_821 lk_114 cv_B_greatestCount rfl rfl (Nf_58 (by decide)) rfl (Nat.le_of_ble_eq_true rfl) ⟨Nat.le_of_ble_eq_true rfl, Nat.le_of_ble_eq_true rfl⟩ ⟨rfl, rfl⟩ (Nat.le_refl _) h1 (fun x2 w2 h2 => ?_)
  refine l_icmp_eq C 1338 d_law_824 (by decide) (fun c0 => ?_) (fun c0 => absurd h2.1.symm c0)
  exact hnext w2 h2.2
theorem lc_24 {p : Program} {l : Launch} {e : Env} {s : State} {m : MethodId} {below : List Frame} {meth : Method} {c : Code} {sb SL : Nat} {xs : Nat → Int32} {D : va_G} {cA : Nat → ClassId} (C : LC p s m meth c sb SL xs D cA) {INV : Wd → Prop} (hop : Op_index INV) {j : Nat} (hj : 6 * j + 6 ≤ SL) (hL : SL ≤ 3072) {w : Wd} (hI : INV w) (hnext : ∀ w2, INV w2 → LW p l e s m below meth c sb D cA 1338 [(0, .ref sb), (1, .ref (s.heap.size + 0)), (2, .ref (s.heap.size + 39)), (3, .int (nI (6 * j)))] [] (Nf 1) (Rf 1) w2 19967) : LW p l e s m below meth c sb D cA 829 [(0, .ref sb), (1, .ref (s.heap.size + 0)), (2, .ref (s.heap.size + 39)), (3, .int (nI (6 * j)))] [] (Nf 1) (Rf 1) w 19967 := by
  refine l_aload_n C 1 d_law_829 rfl ?_
  refine l_cI C (st := []) M_A_index [] d_law_830 lk_115 cv_A_index rfl rfl (Nf_58 (by decide)) rfl (Nat.le_of_ble_eq_true rfl) ⟨Nat.le_of_ble_eq_true rfl, Nat.le_of_ble_eq_true rfl⟩ ⟨rfl, rfl⟩ (Nat.le_refl _) (hop  w hI) (fun x1 w1 h1 => ?_)
  refine l_aload_n C 2 d_law_833 rfl ?_
  refine l_cI C (st := [.int x1]) M_B_index [] d_law_834 lk_118 cv_B_index rfl rfl (Nf_58 (by decide)) rfl (Nat.le_of_ble_eq_true rfl) ⟨Nat.le_of_ble_eq_true rfl, Nat.le_of_ble_eq_true rfl⟩ ⟨rfl, rfl⟩ (Nat.le_refl _) h1 (fun x2 w2 h2 => ?_)
  refine l_icmp_eq C 1338 d_law_837 (by decide) (fun c0 => ?_) (fun c0 => absurd h2.1.symm c0)
  exact hnext w2 h2.2
theorem lc_25 {p : Program} {l : Launch} {e : Env} {s : State} {m : MethodId} {below : List Frame} {meth : Method} {c : Code} {sb SL : Nat} {xs : Nat → Int32} {D : va_G} {cA : Nat → ClassId} (C : LC p s m meth c sb SL xs D cA) {INV : Wd → Prop} (hop : Op_deficiency INV) {j : Nat} (hj : 6 * j + 6 ≤ SL) (hL : SL ≤ 3072) {w : Wd} (hI : INV w) (hnext : ∀ w2, INV w2 → LW p l e s m below meth c sb D cA 1338 [(0, .ref sb), (1, .ref (s.heap.size + 0)), (2, .ref (s.heap.size + 39)), (3, .int (nI (6 * j)))] [] (Nf 1) (Rf 1) w2 19967) : LW p l e s m below meth c sb D cA 842 [(0, .ref sb), (1, .ref (s.heap.size + 0)), (2, .ref (s.heap.size + 39)), (3, .int (nI (6 * j)))] [] (Nf 1) (Rf 1) w 19967 := by
  refine l_aload_n C 1 d_law_842 rfl ?_
  refine l_aload_n C 0 d_law_843 rfl ?_
  refine l_iload_n C 3 d_law_844 rfl ?_
  refine l_iconst C (v := 1) d_law_845 (by decide) ?_
  refine l_iadd C d_law_846 ?_
  refine l_sld C d_law_847 (ix_1 hj hL) ?_
  refine l_cI C (st := []) M_A_deficiency [.int (xs (nI (6 * j) + 1).toNatClampNeg)] d_law_848 lk_119 cv_A_deficiency rfl rfl (Nf_58 (by decide)) rfl (Nat.le_of_ble_eq_true rfl) ⟨Nat.le_of_ble_eq_true rfl, Nat.le_of_ble_eq_true rfl⟩ ⟨rfl, rfl⟩ (Nat.le_refl _) (hop _ w hI) (fun x1 w1 h1 => ?_)
  refine l_aload_n C 2 d_law_851 rfl ?_
  refine l_aload_n C 0 d_law_852 rfl ?_
  refine l_iload_n C 3 d_law_853 rfl ?_
  refine l_iconst C (v := 1) d_law_854 (by decide) ?_
  refine l_iadd C d_law_855 ?_
  refine l_sld C d_law_856 (ix_1 hj hL) ?_
  refine l_cI C (st := [.int x1]) M_B_deficiency [.int (xs (nI (6 * j) + 1).toNatClampNeg)] d_law_857 lk_122 cv_B_deficiency rfl rfl (Nf_58 (by decide)) rfl (Nat.le_of_ble_eq_true rfl) ⟨Nat.le_of_ble_eq_true rfl, Nat.le_of_ble_eq_true rfl⟩ ⟨rfl, rfl⟩ (Nat.le_refl _) h1 (fun x2 w2 h2 => ?_)
  refine l_icmp_eq C 1338 d_law_860 (by decide) (fun c0 => ?_) (fun c0 => absurd h2.1.symm c0)
  exact hnext w2 h2.2
theorem lc_26 {p : Program} {l : Launch} {e : Env} {s : State} {m : MethodId} {below : List Frame} {meth : Method} {c : Code} {sb SL : Nat} {xs : Nat → Int32} {D : va_G} {cA : Nat → ClassId} (C : LC p s m meth c sb SL xs D cA) {INV : Wd → Prop} (hop : Op_isMultiplier INV) {j : Nat} (hj : 6 * j + 6 ≤ SL) (hL : SL ≤ 3072) {w : Wd} (hI : INV w) (hnext : ∀ w2, INV w2 → LW p l e s m below meth c sb D cA 1338 [(0, .ref sb), (1, .ref (s.heap.size + 0)), (2, .ref (s.heap.size + 39)), (3, .int (nI (6 * j)))] [] (Nf 1) (Rf 1) w2 19967) : LW p l e s m below meth c sb D cA 865 [(0, .ref sb), (1, .ref (s.heap.size + 0)), (2, .ref (s.heap.size + 39)), (3, .int (nI (6 * j)))] [] (Nf 1) (Rf 1) w 19967 := by
  refine l_aload_n C 1 d_law_865 rfl ?_
  refine l_aload_n C 0 d_law_866 rfl ?_
  refine l_iload_n C 3 d_law_867 rfl ?_
  refine l_iconst C (v := 1) d_law_868 (by decide) ?_
  refine l_iadd C d_law_869 ?_
  refine l_sld C d_law_870 (ix_1 hj hL) ?_
  refine l_cI C (st := []) M_A_isMultiplier [.int (xs (nI (6 * j) + 1).toNatClampNeg)] d_law_871 lk_123 cv_A_isMultiplier rfl rfl (Nf_58 (by decide)) rfl (Nat.le_of_ble_eq_true rfl) ⟨Nat.le_of_ble_eq_true rfl, Nat.le_of_ble_eq_true rfl⟩ ⟨rfl, rfl⟩ (Nat.le_refl _) (hop _ w hI) (fun x1 w1 h1 => ?_)
  refine l_aload_n C 2 d_law_874 rfl ?_
  refine l_aload_n C 0 d_law_875 rfl ?_
  refine l_iload_n C 3 d_law_876 rfl ?_
  refine l_iconst C (v := 1) d_law_877 (by decide) ?_
  refine l_iadd C d_law_878 ?_
  refine l_sld C d_law_879 (ix_1 hj hL) ?_
  refine l_cI C (st := [.int x1]) M_B_isMultiplier [.int (xs (nI (6 * j) + 1).toNatClampNeg)] d_law_880 lk_126 cv_B_isMultiplier rfl rfl (Nf_58 (by decide)) rfl (Nat.le_of_ble_eq_true rfl) ⟨Nat.le_of_ble_eq_true rfl, Nat.le_of_ble_eq_true rfl⟩ ⟨rfl, rfl⟩ (Nat.le_refl _) h1 (fun x2 w2 h2 => ?_)
  refine l_icmp_eq C 1338 d_law_883 (by decide) (fun c0 => ?_) (fun c0 => absurd h2.1.symm c0)
  exact hnext w2 h2.2
theorem lc_27 {p : Program} {l : Launch} {e : Env} {s : State} {m : MethodId} {below : List Frame} {meth : Method} {c : Code} {sb SL : Nat} {xs : Nat → Int32} {D : va_G} {cA : Nat → ClassId} (C : LC p s m meth c sb SL xs D cA) {INV : Wd → Prop} (hop : Op_multipliers INV) {j : Nat} (hj : 6 * j + 6 ≤ SL) (hL : SL ≤ 3072) {w : Wd} (hI : INV w) (hnext : ∀ w2, INV w2 → LW p l e s m below meth c sb D cA 1338 [(0, .ref sb), (1, .ref (s.heap.size + 0)), (2, .ref (s.heap.size + 39)), (3, .int (nI (6 * j)))] [] (Nf 1) (Rf 1) w2 19967) : LW p l e s m below meth c sb D cA 888 [(0, .ref sb), (1, .ref (s.heap.size + 0)), (2, .ref (s.heap.size + 39)), (3, .int (nI (6 * j)))] [] (Nf 1) (Rf 1) w 19967 := by
  refine l_aload_n C 1 d_law_888 rfl ?_
  refine l_cL C (st := []) M_A_multipliers [] d_law_889 lk_127 cv_A_multipliers rfl rfl (Nf_58 (by decide)) rfl (Nat.le_of_ble_eq_true rfl) ⟨Nat.le_of_ble_eq_true rfl, Nat.le_of_ble_eq_true rfl⟩ ⟨rfl, rfl⟩ (Nat.le_refl _) (hop  w hI) (fun x1 w1 h1 => ?_)
  refine l_aload_n C 2 d_law_892 rfl ?_
  refine l_cL C (st := [.long x1]) M_B_multipliers [] d_law_893 lk_130 cv_B_multipliers rfl rfl (Nf_58 (by decide)) rfl (Nat.le_of_ble_eq_true rfl) ⟨Nat.le_of_ble_eq_true rfl, Nat.le_of_ble_eq_true rfl⟩ ⟨rfl, rfl⟩ (Nat.le_refl _) h1 (fun x2 w2 h2 => ?_)
  refine l_lcmp C d_law_896 ?_
  refine l_if_eq C 1338 d_law_897 (by decide) (fun c0 => ?_) (fun c0 => absurd ((lg_cmp_eq _ _).mpr h2.1.symm) c0)
  exact hnext w2 h2.2
theorem lc_28 {p : Program} {l : Launch} {e : Env} {s : State} {m : MethodId} {below : List Frame} {meth : Method} {c : Code} {sb SL : Nat} {xs : Nat → Int32} {D : va_G} {cA : Nat → ClassId} (C : LC p s m meth c sb SL xs D cA) {INV : Wd → Prop} (hop : Op_symmetries INV) {j : Nat} (hj : 6 * j + 6 ≤ SL) (hL : SL ≤ 3072) {w : Wd} (hI : INV w) (hnext : ∀ w2, INV w2 → LW p l e s m below meth c sb D cA 1338 [(0, .ref sb), (1, .ref (s.heap.size + 0)), (2, .ref (s.heap.size + 39)), (3, .int (nI (6 * j)))] [] (Nf 1) (Rf 1) w2 19967) : LW p l e s m below meth c sb D cA 902 [(0, .ref sb), (1, .ref (s.heap.size + 0)), (2, .ref (s.heap.size + 39)), (3, .int (nI (6 * j)))] [] (Nf 1) (Rf 1) w 19967 := by
  refine l_aload_n C 1 d_law_902 rfl ?_
  refine l_cI C (st := []) M_A_symmetries [] d_law_903 lk_131 cv_A_symmetries rfl rfl (Nf_58 (by decide)) rfl (Nat.le_of_ble_eq_true rfl) ⟨Nat.le_of_ble_eq_true rfl, Nat.le_of_ble_eq_true rfl⟩ ⟨rfl, rfl⟩ (Nat.le_refl _) (hop  w hI) (fun x1 w1 h1 => ?_)
  refine l_aload_n C 2 d_law_906 rfl ?_
  refine l_cI C (st := [.int x1]) M_B_symmetries [] d_law_907 lk_134 cv_B_symmetries rfl rfl (Nf_58 (by decide)) rfl (Nat.le_of_ble_eq_true rfl) ⟨Nat.le_of_ble_eq_true rfl, Nat.le_of_ble_eq_true rfl⟩ ⟨rfl, rfl⟩ (Nat.le_refl _) h1 (fun x2 w2 h2 => ?_)
  refine l_icmp_eq C 1338 d_law_910 (by decide) (fun c0 => ?_) (fun c0 => absurd h2.1.symm c0)
  exact hnext w2 h2.2
theorem lc_29 {p : Program} {l : Launch} {e : Env} {s : State} {m : MethodId} {below : List Frame} {meth : Method} {c : Code} {sb SL : Nat} {xs : Nat → Int32} {D : va_G} {cA : Nat → ClassId} (C : LC p s m meth c sb SL xs D cA) {INV : Wd → Prop} (hop : Op_canonical INV) {j : Nat} (hj : 6 * j + 6 ≤ SL) (hL : SL ≤ 3072) {w : Wd} (hI : INV w) (hnext : ∀ w2, INV w2 → LW p l e s m below meth c sb D cA 1338 [(0, .ref sb), (1, .ref (s.heap.size + 0)), (2, .ref (s.heap.size + 39)), (3, .int (nI (6 * j)))] [] (Nf 1) (Rf 1) w2 19967) : LW p l e s m below meth c sb D cA 915 [(0, .ref sb), (1, .ref (s.heap.size + 0)), (2, .ref (s.heap.size + 39)), (3, .int (nI (6 * j)))] [] (Nf 1) (Rf 1) w 19967 := by
  refine l_aload_n C 1 d_law_915 rfl ?_
  refine l_aload_n C 0 d_law_916 rfl ?_
  refine l_iload_n C 3 d_law_917 rfl ?_
  refine l_iconst C (v := 1) d_law_918 (by decide) ?_
  refine l_iadd C d_law_919 ?_
  refine l_sld C d_law_920 (ix_1 hj hL) ?_
  refine l_cL C (st := []) M_A_canonical [.int (xs (nI (6 * j) + 1).toNatClampNeg)] d_law_921 lk_135 cv_A_canonical rfl rfl (Nf_58 (by decide)) rfl (Nat.le_of_ble_eq_true rfl) ⟨Nat.le_of_ble_eq_true rfl, Nat.le_of_ble_eq_true rfl⟩ ⟨rfl, rfl⟩ (Nat.le_refl _) (hop _ w hI) (fun x1 w1 h1 => ?_)
  refine l_aload_n C 2 d_law_924 rfl ?_
  refine l_aload_n C 0 d_law_925 rfl ?_
  refine l_iload_n C 3 d_law_926 rfl ?_
  refine l_iconst C (v := 1) d_law_927 (by decide) ?_
  refine l_iadd C d_law_928 ?_
  refine l_sld C d_law_929 (ix_1 hj hL) ?_
  refine l_cL C (st := [.long x1]) M_B_canonical [.int (xs (nI (6 * j) + 1).toNatClampNeg)] d_law_930 lk_138 cv_B_canonical rfl rfl (Nf_58 (by decide)) rfl (Nat.le_of_ble_eq_true rfl) ⟨Nat.le_of_ble_eq_true rfl, Nat.le_of_ble_eq_true rfl⟩ ⟨rfl, rfl⟩ (Nat.le_refl _) h1 (fun x2 w2 h2 => ?_)
  refine l_lcmp C d_law_933 ?_
  refine l_if_eq C 1338 d_law_934 (by decide) (fun c0 => ?_) (fun c0 => absurd ((lg_cmp_eq _ _).mpr h2.1.symm) c0)
  exact hnext w2 h2.2
theorem lc_30 {p : Program} {l : Launch} {e : Env} {s : State} {m : MethodId} {below : List Frame} {meth : Method} {c : Code} {sb SL : Nat} {xs : Nat → Int32} {D : va_G} {cA : Nat → ClassId} (C : LC p s m meth c sb SL xs D cA) {INV : Wd → Prop} (hop : Op_isEquivalent INV) {j : Nat} (hj : 6 * j + 6 ≤ SL) (hL : SL ≤ 3072) {w : Wd} (hI : INV w) (hnext : ∀ w2, INV w2 → LW p l e s m below meth c sb D cA 1338 [(0, .ref sb), (1, .ref (s.heap.size + 0)), (2, .ref (s.heap.size + 39)), (3, .int (nI (6 * j)))] [] (Nf 1) (Rf 1) w2 19967) : LW p l e s m below meth c sb D cA 939 [(0, .ref sb), (1, .ref (s.heap.size + 0)), (2, .ref (s.heap.size + 39)), (3, .int (nI (6 * j)))] [] (Nf 1) (Rf 1) w 19967 := by
  refine l_aload_n C 1 d_law_939 rfl ?_
  refine l_aload_n C 0 d_law_940 rfl ?_
  refine l_iload_n C 3 d_law_941 rfl ?_
  refine l_iconst C (v := 1) d_law_942 (by decide) ?_
  refine l_iadd C d_law_943 ?_
  refine l_sld C d_law_944 (ix_1 hj hL) ?_
  refine l_cI C (st := []) M_A_isEquivalent [.int (xs (nI (6 * j) + 1).toNatClampNeg)] d_law_945 lk_139 cv_A_isEquivalent rfl rfl (Nf_58 (by decide)) rfl (Nat.le_of_ble_eq_true rfl) ⟨Nat.le_of_ble_eq_true rfl, Nat.le_of_ble_eq_true rfl⟩ ⟨rfl, rfl⟩ (Nat.le_refl _) (hop _ w hI) (fun x1 w1 h1 => ?_)
  refine l_aload_n C 2 d_law_948 rfl ?_
  refine l_aload_n C 0 d_law_949 rfl ?_
  refine l_iload_n C 3 d_law_950 rfl ?_
  refine l_iconst C (v := 1) d_law_951 (by decide) ?_
  refine l_iadd C d_law_952 ?_
  refine l_sld C d_law_953 (ix_1 hj hL) ?_
  refine l_cI C (st := [.int x1]) M_B_isEquivalent [.int (xs (nI (6 * j) + 1).toNatClampNeg)] d_law_954 lk_142 cv_B_isEquivalent rfl rfl (Nf_58 (by decide)) rfl (Nat.le_of_ble_eq_true rfl) ⟨Nat.le_of_ble_eq_true rfl, Nat.le_of_ble_eq_true rfl⟩ ⟨rfl, rfl⟩ (Nat.le_refl _) h1 (fun x2 w2 h2 => ?_)
  refine l_icmp_eq C 1338 d_law_957 (by decide) (fun c0 => ?_) (fun c0 => absurd h2.1.symm c0)
  exact hnext w2 h2.2
theorem lc_31 {p : Program} {l : Launch} {e : Env} {s : State} {m : MethodId} {below : List Frame} {meth : Method} {c : Code} {sb SL : Nat} {xs : Nat → Int32} {D : va_G} {cA : Nat → ClassId} (C : LC p s m meth c sb SL xs D cA) {INV : Wd → Prop} (hop : Op_designBlocks INV) {j : Nat} (hj : 6 * j + 6 ≤ SL) (hL : SL ≤ 3072) {w : Wd} (hI : INV w) (hnext : ∀ w2, INV w2 → LW p l e s m below meth c sb D cA 1338 [(0, .ref sb), (1, .ref (s.heap.size + 0)), (2, .ref (s.heap.size + 39)), (3, .int (nI (6 * j)))] [] (Nf 1) (Rf 1) w2 19967) : LW p l e s m below meth c sb D cA 962 [(0, .ref sb), (1, .ref (s.heap.size + 0)), (2, .ref (s.heap.size + 39)), (3, .int (nI (6 * j)))] [] (Nf 1) (Rf 1) w 19967 := by
  refine l_aload_n C 1 d_law_962 rfl ?_
  refine l_cI C (st := []) M_A_designBlocks [] d_law_963 lk_143 cv_A_designBlocks rfl rfl (Nf_58 (by decide)) rfl (Nat.le_of_ble_eq_true rfl) ⟨Nat.le_of_ble_eq_true rfl, Nat.le_of_ble_eq_true rfl⟩ ⟨rfl, rfl⟩ (Nat.le_refl _) (hop  w hI) (fun x1 w1 h1 => ?_)
  refine l_aload_n C 2 d_law_966 rfl ?_
  refine l_cI C (st := [.int x1]) M_B_designBlocks [] d_law_967 lk_146 cv_B_designBlocks rfl rfl (Nf_58 (by decide)) rfl (Nat.le_of_ble_eq_true rfl) ⟨Nat.le_of_ble_eq_true rfl, Nat.le_of_ble_eq_true rfl⟩ ⟨rfl, rfl⟩ (Nat.le_refl _) h1 (fun x2 w2 h2 => ?_)
  refine l_icmp_eq C 1338 d_law_970 (by decide) (fun c0 => ?_) (fun c0 => absurd h2.1.symm c0)
  exact hnext w2 h2.2
theorem lc_32 {p : Program} {l : Launch} {e : Env} {s : State} {m : MethodId} {below : List Frame} {meth : Method} {c : Code} {sb SL : Nat} {xs : Nat → Int32} {D : va_G} {cA : Nat → ClassId} (C : LC p s m meth c sb SL xs D cA) {INV : Wd → Prop} (hop : Op_designBlock INV) {j : Nat} (hj : 6 * j + 6 ≤ SL) (hL : SL ≤ 3072) {w : Wd} (hI : INV w) (hnext : ∀ w2, INV w2 → LW p l e s m below meth c sb D cA 1338 [(0, .ref sb), (1, .ref (s.heap.size + 0)), (2, .ref (s.heap.size + 39)), (3, .int (nI (6 * j)))] [] (Nf 1) (Rf 1) w2 19967) : LW p l e s m below meth c sb D cA 975 [(0, .ref sb), (1, .ref (s.heap.size + 0)), (2, .ref (s.heap.size + 39)), (3, .int (nI (6 * j)))] [] (Nf 1) (Rf 1) w 19967 := by
  refine l_aload_n C 1 d_law_975 rfl ?_
  refine l_aload_n C 0 d_law_976 rfl ?_
  refine l_iload_n C 3 d_law_977 rfl ?_
  refine l_iconst C (v := 1) d_law_978 (by decide) ?_
  refine l_iadd C d_law_979 ?_
  refine l_sld C d_law_980 (ix_1 hj hL) ?_
  refine l_cL C (st := []) M_A_designBlock [.int (xs (nI (6 * j) + 1).toNatClampNeg)] d_law_981 lk_147 cv_A_designBlock rfl rfl (Nf_58 (by decide)) rfl (Nat.le_of_ble_eq_true rfl) ⟨Nat.le_of_ble_eq_true rfl, Nat.le_of_ble_eq_true rfl⟩ ⟨rfl, rfl⟩ (Nat.le_refl _) (hop _ w hI) (fun x1 w1 h1 => ?_)
  refine l_aload_n C 2 d_law_984 rfl ?_
  refine l_aload_n C 0 d_law_985 rfl ?_
  refine l_iload_n C 3 d_law_986 rfl ?_
  refine l_iconst C (v := 1) d_law_987 (by decide) ?_
  refine l_iadd C d_law_988 ?_
  refine l_sld C d_law_989 (ix_1 hj hL) ?_
  refine l_cL C (st := [.long x1]) M_B_designBlock [.int (xs (nI (6 * j) + 1).toNatClampNeg)] d_law_990 lk_150 cv_B_designBlock rfl rfl (Nf_58 (by decide)) rfl (Nat.le_of_ble_eq_true rfl) ⟨Nat.le_of_ble_eq_true rfl, Nat.le_of_ble_eq_true rfl⟩ ⟨rfl, rfl⟩ (Nat.le_refl _) h1 (fun x2 w2 h2 => ?_)
  refine l_lcmp C d_law_993 ?_
  refine l_if_eq C 1338 d_law_994 (by decide) (fun c0 => ?_) (fun c0 => absurd ((lg_cmp_eq _ _).mpr h2.1.symm) c0)
  exact hnext w2 h2.2
theorem lc_33 {p : Program} {l : Launch} {e : Env} {s : State} {m : MethodId} {below : List Frame} {meth : Method} {c : Code} {sb SL : Nat} {xs : Nat → Int32} {D : va_G} {cA : Nat → ClassId} (C : LC p s m meth c sb SL xs D cA) {INV : Wd → Prop} (hop : Op_replication INV) {j : Nat} (hj : 6 * j + 6 ≤ SL) (hL : SL ≤ 3072) {w : Wd} (hI : INV w) (hnext : ∀ w2, INV w2 → LW p l e s m below meth c sb D cA 1338 [(0, .ref sb), (1, .ref (s.heap.size + 0)), (2, .ref (s.heap.size + 39)), (3, .int (nI (6 * j)))] [] (Nf 1) (Rf 1) w2 19967) : LW p l e s m below meth c sb D cA 999 [(0, .ref sb), (1, .ref (s.heap.size + 0)), (2, .ref (s.heap.size + 39)), (3, .int (nI (6 * j)))] [] (Nf 1) (Rf 1) w 19967 := by
  refine l_aload_n C 1 d_law_999 rfl ?_
  refine l_aload_n C 0 d_law_1000 rfl ?_
  refine l_iload_n C 3 d_law_1001 rfl ?_
  refine l_iconst C (v := 1) d_law_1002 (by decide) ?_
  refine l_iadd C d_law_1003 ?_
  refine l_sld C d_law_1004 (ix_1 hj hL) ?_
  refine l_cI C (st := []) M_A_replication [.int (xs (nI (6 * j) + 1).toNatClampNeg)] d_law_1005 lk_151 cv_A_replication rfl rfl (Nf_58 (by decide)) rfl (Nat.le_of_ble_eq_true rfl) ⟨Nat.le_of_ble_eq_true rfl, Nat.le_of_ble_eq_true rfl⟩ ⟨rfl, rfl⟩ (Nat.le_refl _) (hop _ w hI) (fun x1 w1 h1 => ?_)
  refine l_aload_n C 2 d_law_1008 rfl ?_
  refine l_aload_n C 0 d_law_1009 rfl ?_
  refine l_iload_n C 3 d_law_1010 rfl ?_
  refine l_iconst C (v := 1) d_law_1011 (by decide) ?_
  refine l_iadd C d_law_1012 ?_
  refine l_sld C d_law_1013 (ix_1 hj hL) ?_
  refine l_cI C (st := [.int x1]) M_B_replication [.int (xs (nI (6 * j) + 1).toNatClampNeg)] d_law_1014 lk_154 cv_B_replication rfl rfl (Nf_58 (by decide)) rfl (Nat.le_of_ble_eq_true rfl) ⟨Nat.le_of_ble_eq_true rfl, Nat.le_of_ble_eq_true rfl⟩ ⟨rfl, rfl⟩ (Nat.le_refl _) h1 (fun x2 w2 h2 => ?_)
  refine l_icmp_eq C 1338 d_law_1017 (by decide) (fun c0 => ?_) (fun c0 => absurd h2.1.symm c0)
  exact hnext w2 h2.2
theorem lc_34 {p : Program} {l : Launch} {e : Env} {s : State} {m : MethodId} {below : List Frame} {meth : Method} {c : Code} {sb SL : Nat} {xs : Nat → Int32} {D : va_G} {cA : Nat → ClassId} (C : LC p s m meth c sb SL xs D cA) {INV : Wd → Prop} (hop : Op_pairs INV) {j : Nat} (hj : 6 * j + 6 ≤ SL) (hL : SL ≤ 3072) {w : Wd} (hI : INV w) (hnext : ∀ w2, INV w2 → LW p l e s m below meth c sb D cA 1338 [(0, .ref sb), (1, .ref (s.heap.size + 0)), (2, .ref (s.heap.size + 39)), (3, .int (nI (6 * j)))] [] (Nf 1) (Rf 1) w2 19967) : LW p l e s m below meth c sb D cA 1022 [(0, .ref sb), (1, .ref (s.heap.size + 0)), (2, .ref (s.heap.size + 39)), (3, .int (nI (6 * j)))] [] (Nf 1) (Rf 1) w 19967 := by
  refine l_aload_n C 1 d_law_1022 rfl ?_
  refine l_aload_n C 0 d_law_1023 rfl ?_
  refine l_iload_n C 3 d_law_1024 rfl ?_
  refine l_iconst C (v := 1) d_law_1025 (by decide) ?_
  refine l_iadd C d_law_1026 ?_
  refine l_sld C d_law_1027 (ix_1 hj hL) ?_
  refine l_aload_n C 0 d_law_1028 rfl ?_
  refine l_iload_n C 3 d_law_1029 rfl ?_
  refine l_iconst C (v := 2) d_law_1030 (by decide) ?_
  refine l_iadd C d_law_1031 ?_
  refine l_sld C d_law_1032 (ix_2 hj hL) ?_
  refine l_cI C (st := []) M_A_pairs [.int (xs (nI (6 * j) + 1).toNatClampNeg), .int (xs (nI (6 * j) + 2).toNatClampNeg)] d_law_1033 lk_155 cv_A_pairs rfl rfl (Nf_58 (by decide)) rfl (Nat.le_of_ble_eq_true rfl) ⟨Nat.le_of_ble_eq_true rfl, Nat.le_of_ble_eq_true rfl⟩ ⟨rfl, rfl⟩ (Nat.le_refl _) (hop _ _ w hI) (fun x1 w1 h1 => ?_)
  refine l_aload_n C 2 d_law_1036 rfl ?_
  refine l_aload_n C 0 d_law_1037 rfl ?_
  refine l_iload_n C 3 d_law_1038 rfl ?_
  refine l_iconst C (v := 1) d_law_1039 (by decide) ?_
  refine l_iadd C d_law_1040 ?_
  refine l_sld C d_law_1041 (ix_1 hj hL) ?_
  refine l_aload_n C 0 d_law_1042 rfl ?_
  refine l_iload_n C 3 d_law_1043 rfl ?_
  refine l_iconst C (v := 2) d_law_1044 (by decide) ?_
  refine l_iadd C d_law_1045 ?_
  refine l_sld C d_law_1046 (ix_2 hj hL) ?_
  refine l_cI C (st := [.int x1]) M_B_pairs [.int (xs (nI (6 * j) + 1).toNatClampNeg), .int (xs (nI (6 * j) + 2).toNatClampNeg)] d_law_1047 lk_158 cv_B_pairs rfl rfl (Nf_58 (by decide)) rfl (Nat.le_of_ble_eq_true rfl) ⟨Nat.le_of_ble_eq_true rfl, Nat.le_of_ble_eq_true rfl⟩ ⟨rfl, rfl⟩ (Nat.le_refl _) h1 (fun x2 w2 h2 => ?_)
  refine l_icmp_eq C 1338 d_law_1050 (by decide) (fun c0 => ?_) (fun c0 => absurd h2.1.symm c0)
  exact hnext w2 h2.2
theorem lc_35 {p : Program} {l : Launch} {e : Env} {s : State} {m : MethodId} {below : List Frame} {meth : Method} {c : Code} {sb SL : Nat} {xs : Nat → Int32} {D : va_G} {cA : Nat → ClassId} (C : LC p s m meth c sb SL xs D cA) {INV : Wd → Prop} (hop : Op_intersections INV) {j : Nat} (hj : 6 * j + 6 ≤ SL) (hL : SL ≤ 3072) {w : Wd} (hI : INV w) (hnext : ∀ w2, INV w2 → LW p l e s m below meth c sb D cA 1338 [(0, .ref sb), (1, .ref (s.heap.size + 0)), (2, .ref (s.heap.size + 39)), (3, .int (nI (6 * j)))] [] (Nf 1) (Rf 1) w2 19967) : LW p l e s m below meth c sb D cA 1055 [(0, .ref sb), (1, .ref (s.heap.size + 0)), (2, .ref (s.heap.size + 39)), (3, .int (nI (6 * j)))] [] (Nf 1) (Rf 1) w 19967 := by
  refine l_aload_n C 1 d_law_1055 rfl ?_
  refine l_aload_n C 0 d_law_1056 rfl ?_
  refine l_iload_n C 3 d_law_1057 rfl ?_
  refine l_iconst C (v := 1) d_law_1058 (by decide) ?_
  refine l_iadd C d_law_1059 ?_
  refine l_sld C d_law_1060 (ix_1 hj hL) ?_
  refine l_cI C (st := []) M_A_intersections [.int (xs (nI (6 * j) + 1).toNatClampNeg)] d_law_1061 lk_159 cv_A_intersections rfl rfl (Nf_58 (by decide)) rfl (Nat.le_of_ble_eq_true rfl) ⟨Nat.le_of_ble_eq_true rfl, Nat.le_of_ble_eq_true rfl⟩ ⟨rfl, rfl⟩ (Nat.le_refl _) (hop _ w hI) (fun x1 w1 h1 => ?_)
  refine l_aload_n C 2 d_law_1064 rfl ?_
  refine l_aload_n C 0 d_law_1065 rfl ?_
  refine l_iload_n C 3 d_law_1066 rfl ?_
  refine l_iconst C (v := 1) d_law_1067 (by decide) ?_
  refine l_iadd C d_law_1068 ?_
  refine l_sld C d_law_1069 (ix_1 hj hL) ?_
  refine l_cI C (st := [.int x1]) M_B_intersections [.int (xs (nI (6 * j) + 1).toNatClampNeg)] d_law_1070 lk_162 cv_B_intersections rfl rfl (Nf_58 (by decide)) rfl (Nat.le_of_ble_eq_true rfl) ⟨Nat.le_of_ble_eq_true rfl, Nat.le_of_ble_eq_true rfl⟩ ⟨rfl, rfl⟩ (Nat.le_refl _) h1 (fun x2 w2 h2 => ?_)
  refine l_icmp_eq C 1338 d_law_1073 (by decide) (fun c0 => ?_) (fun c0 => absurd h2.1.symm c0)
  exact hnext w2 h2.2
theorem lc_36 {p : Program} {l : Launch} {e : Env} {s : State} {m : MethodId} {below : List Frame} {meth : Method} {c : Code} {sb SL : Nat} {xs : Nat → Int32} {D : va_G} {cA : Nat → ClassId} (C : LC p s m meth c sb SL xs D cA) {INV : Wd → Prop} (hop : Op_rank INV) {j : Nat} (hj : 6 * j + 6 ≤ SL) (hL : SL ≤ 3072) {w : Wd} (hI : INV w) (hnext : ∀ w2, INV w2 → LW p l e s m below meth c sb D cA 1338 [(0, .ref sb), (1, .ref (s.heap.size + 0)), (2, .ref (s.heap.size + 39)), (3, .int (nI (6 * j)))] [] (Nf 1) (Rf 1) w2 19967) : LW p l e s m below meth c sb D cA 1078 [(0, .ref sb), (1, .ref (s.heap.size + 0)), (2, .ref (s.heap.size + 39)), (3, .int (nI (6 * j)))] [] (Nf 1) (Rf 1) w 19967 := by
  refine l_aload_n C 1 d_law_1078 rfl ?_
  refine l_aload_n C 0 d_law_1079 rfl ?_
  refine l_iload_n C 3 d_law_1080 rfl ?_
  refine l_iconst C (v := 1) d_law_1081 (by decide) ?_
  refine l_iadd C d_law_1082 ?_
  refine l_sld C d_law_1083 (ix_1 hj hL) ?_
  refine l_cI C (st := []) M_A_rank [.int (xs (nI (6 * j) + 1).toNatClampNeg)] d_law_1084 lk_163 cv_A_rank rfl rfl (Nf_58 (by decide)) rfl (Nat.le_of_ble_eq_true rfl) ⟨Nat.le_of_ble_eq_true rfl, Nat.le_of_ble_eq_true rfl⟩ ⟨rfl, rfl⟩ (Nat.le_refl _) (hop _ w hI) (fun x1 w1 h1 => ?_)
  refine l_aload_n C 2 d_law_1087 rfl ?_
  refine l_aload_n C 0 d_law_1088 rfl ?_
  refine l_iload_n C 3 d_law_1089 rfl ?_
  refine l_iconst C (v := 1) d_law_1090 (by decide) ?_
  refine l_iadd C d_law_1091 ?_
  refine l_sld C d_law_1092 (ix_1 hj hL) ?_
  refine l_cI C (st := [.int x1]) M_B_rank [.int (xs (nI (6 * j) + 1).toNatClampNeg)] d_law_1093 lk_166 cv_B_rank rfl rfl (Nf_58 (by decide)) rfl (Nat.le_of_ble_eq_true rfl) ⟨Nat.le_of_ble_eq_true rfl, Nat.le_of_ble_eq_true rfl⟩ ⟨rfl, rfl⟩ (Nat.le_refl _) h1 (fun x2 w2 h2 => ?_)
  refine l_icmp_eq C 1338 d_law_1096 (by decide) (fun c0 => ?_) (fun c0 => absurd h2.1.symm c0)
  exact hnext w2 h2.2
theorem lc_37 {p : Program} {l : Launch} {e : Env} {s : State} {m : MethodId} {below : List Frame} {meth : Method} {c : Code} {sb SL : Nat} {xs : Nat → Int32} {D : va_G} {cA : Nat → ClassId} (C : LC p s m meth c sb SL xs D cA) {INV : Wd → Prop} (hop : Op_disjointBlocks INV) {j : Nat} (hj : 6 * j + 6 ≤ SL) (hL : SL ≤ 3072) {w : Wd} (hI : INV w) (hnext : ∀ w2, INV w2 → LW p l e s m below meth c sb D cA 1338 [(0, .ref sb), (1, .ref (s.heap.size + 0)), (2, .ref (s.heap.size + 39)), (3, .int (nI (6 * j)))] [] (Nf 1) (Rf 1) w2 19967) : LW p l e s m below meth c sb D cA 1101 [(0, .ref sb), (1, .ref (s.heap.size + 0)), (2, .ref (s.heap.size + 39)), (3, .int (nI (6 * j)))] [] (Nf 1) (Rf 1) w 19967 := by
  refine l_aload_n C 1 d_law_1101 rfl ?_
  refine l_cI C (st := []) M_A_disjointBlocks [] d_law_1102 lk_167 cv_A_disjointBlocks rfl rfl (Nf_58 (by decide)) rfl (Nat.le_of_ble_eq_true rfl) ⟨Nat.le_of_ble_eq_true rfl, Nat.le_of_ble_eq_true rfl⟩ ⟨rfl, rfl⟩ (Nat.le_refl _) (hop  w hI) (fun x1 w1 h1 => ?_)
  refine l_aload_n C 2 d_law_1105 rfl ?_
  refine l_cI C (st := [.int x1]) M_B_disjointBlocks [] d_law_1106 lk_170 cv_B_disjointBlocks rfl rfl (Nf_58 (by decide)) rfl (Nat.le_of_ble_eq_true rfl) ⟨Nat.le_of_ble_eq_true rfl, Nat.le_of_ble_eq_true rfl⟩ ⟨rfl, rfl⟩ (Nat.le_refl _) h1 (fun x2 w2 h2 => ?_)
  refine l_icmp_eq C 1338 d_law_1109 (by decide) (fun c0 => ?_) (fun c0 => absurd h2.1.symm c0)
  exact hnext w2 h2.2
theorem lc_38 {p : Program} {l : Launch} {e : Env} {s : State} {m : MethodId} {below : List Frame} {meth : Method} {c : Code} {sb SL : Nat} {xs : Nat → Int32} {D : va_G} {cA : Nat → ClassId} (C : LC p s m meth c sb SL xs D cA) {INV : Wd → Prop} (hop : Op_search INV) {j : Nat} (hj : 6 * j + 6 ≤ SL) (hL : SL ≤ 3072) {w : Wd} (hI : INV w) (hnext : ∀ w2, INV w2 → LW p l e s m below meth c sb D cA 1338 [(0, .ref sb), (1, .ref (s.heap.size + 0)), (2, .ref (s.heap.size + 39)), (3, .int (nI (6 * j)))] [] (Nf 1) (Rf 1) w2 19967) : LW p l e s m below meth c sb D cA 1114 [(0, .ref sb), (1, .ref (s.heap.size + 0)), (2, .ref (s.heap.size + 39)), (3, .int (nI (6 * j)))] [] (Nf 1) (Rf 1) w 19967 := by
  refine l_aload_n C 1 d_law_1114 rfl ?_
  refine l_aload_n C 0 d_law_1115 rfl ?_
  refine l_iload_n C 3 d_law_1116 rfl ?_
  refine l_iconst C (v := 1) d_law_1117 (by decide) ?_
  refine l_iadd C d_law_1118 ?_
  refine l_sld C d_law_1119 (ix_1 hj hL) ?_
  refine l_aload_n C 0 d_law_1120 rfl ?_
  refine l_iload_n C 3 d_law_1121 rfl ?_
  refine l_iconst C (v := 2) d_law_1122 (by decide) ?_
  refine l_iadd C d_law_1123 ?_
  refine l_sld C d_law_1124 (ix_2 hj hL) ?_
  refine l_aload_n C 0 d_law_1125 rfl ?_
  refine l_iload_n C 3 d_law_1126 rfl ?_
  refine l_iconst C (v := 3) d_law_1127 (by decide) ?_
  refine l_iadd C d_law_1128 ?_
  refine l_sld C d_law_1129 (ix_3 hj hL) ?_
  refine l_aload_n C 0 d_law_1130 rfl ?_
  refine l_iload_n C 3 d_law_1131 rfl ?_
  refine l_iconst C (v := 4) d_law_1132 (by decide) ?_
  refine l_iadd C d_law_1133 ?_
  refine l_sld C d_law_1134 (ix_4 hj hL) ?_
  refine l_aload_n C 0 d_law_1135 rfl ?_
  refine l_iload_n C 3 d_law_1136 rfl ?_
  refine l_iconst C (v := 5) d_law_1137 (by decide) ?_
  refine l_iadd C d_law_1138 ?_
  refine l_sld C d_law_1139 (ix_5 hj hL) ?_
  refine l_cI C (st := []) M_A_search [.int (xs (nI (6 * j) + 1).toNatClampNeg), .int (xs (nI (6 * j) + 2).toNatClampNeg), .int (xs (nI (6 * j) + 3).toNatClampNeg), .int (xs (nI (6 * j) + 4).toNatClampNeg), .int (xs (nI (6 * j) + 5).toNatClampNeg)] d_law_1140 lk_171 cv_A_search rfl rfl (Nf_58 (by decide)) rfl (Nat.le_of_ble_eq_true rfl) ⟨Nat.le_of_ble_eq_true rfl, Nat.le_of_ble_eq_true rfl⟩ ⟨rfl, rfl⟩ (Nat.le_refl _) (hop _ _ _ _ _ w hI) (fun x1 w1 h1 => ?_)
  refine l_aload_n C 2 d_law_1143 rfl ?_
  refine l_aload_n C 0 d_law_1144 rfl ?_
  refine l_iload_n C 3 d_law_1145 rfl ?_
  refine l_iconst C (v := 1) d_law_1146 (by decide) ?_
  refine l_iadd C d_law_1147 ?_
  refine l_sld C d_law_1148 (ix_1 hj hL) ?_
  refine l_aload_n C 0 d_law_1149 rfl ?_
  refine l_iload_n C 3 d_law_1150 rfl ?_
  refine l_iconst C (v := 2) d_law_1151 (by decide) ?_
  refine l_iadd C d_law_1152 ?_
  refine l_sld C d_law_1153 (ix_2 hj hL) ?_
  refine l_aload_n C 0 d_law_1154 rfl ?_
  refine l_iload_n C 3 d_law_1155 rfl ?_
  refine l_iconst C (v := 3) d_law_1156 (by decide) ?_
  refine l_iadd C d_law_1157 ?_
  refine l_sld C d_law_1158 (ix_3 hj hL) ?_
  refine l_aload_n C 0 d_law_1159 rfl ?_
  refine l_iload_n C 3 d_law_1160 rfl ?_
  refine l_iconst C (v := 4) d_law_1161 (by decide) ?_
  refine l_iadd C d_law_1162 ?_
  refine l_sld C d_law_1163 (ix_4 hj hL) ?_
  refine l_aload_n C 0 d_law_1164 rfl ?_
  refine l_iload_n C 3 d_law_1165 rfl ?_
  refine l_iconst C (v := 5) d_law_1166 (by decide) ?_
  refine l_iadd C d_law_1167 ?_
  refine l_sld C d_law_1168 (ix_5 hj hL) ?_
  refine l_cI C (st := [.int x1]) M_B_search [.int (xs (nI (6 * j) + 1).toNatClampNeg), .int (xs (nI (6 * j) + 2).toNatClampNeg), .int (xs (nI (6 * j) + 3).toNatClampNeg), .int (xs (nI (6 * j) + 4).toNatClampNeg), .int (xs (nI (6 * j) + 5).toNatClampNeg)] d_law_1169 lk_175 cv_B_search rfl rfl (Nf_58 (by decide)) rfl (Nat.le_of_ble_eq_true rfl) ⟨Nat.le_of_ble_eq_true rfl, Nat.le_of_ble_eq_true rfl⟩ ⟨rfl, rfl⟩ (Nat.le_refl _) h1 (fun x2 w2 h2 => ?_)
  refine l_icmp_eq C 1338 d_law_1172 (by decide) (fun c0 => ?_) (fun c0 => absurd h2.1.symm c0)
  exact hnext w2 h2.2
theorem lc_39 {p : Program} {l : Launch} {e : Env} {s : State} {m : MethodId} {below : List Frame} {meth : Method} {c : Code} {sb SL : Nat} {xs : Nat → Int32} {D : va_G} {cA : Nat → ClassId} (C : LC p s m meth c sb SL xs D cA) {INV : Wd → Prop} (hop : Op_searchSteps INV) {j : Nat} (hj : 6 * j + 6 ≤ SL) (hL : SL ≤ 3072) {w : Wd} (hI : INV w) (hnext : ∀ w2, INV w2 → LW p l e s m below meth c sb D cA 1338 [(0, .ref sb), (1, .ref (s.heap.size + 0)), (2, .ref (s.heap.size + 39)), (3, .int (nI (6 * j)))] [] (Nf 1) (Rf 1) w2 19967) : LW p l e s m below meth c sb D cA 1177 [(0, .ref sb), (1, .ref (s.heap.size + 0)), (2, .ref (s.heap.size + 39)), (3, .int (nI (6 * j)))] [] (Nf 1) (Rf 1) w 19967 := by
  refine l_aload_n C 1 d_law_1177 rfl ?_
  refine l_cI C (st := []) M_A_searchSteps [] d_law_1178 lk_176 cv_A_searchSteps rfl rfl (Nf_58 (by decide)) rfl (Nat.le_of_ble_eq_true rfl) ⟨Nat.le_of_ble_eq_true rfl, Nat.le_of_ble_eq_true rfl⟩ ⟨rfl, rfl⟩ (Nat.le_refl _) (hop  w hI) (fun x1 w1 h1 => ?_)
  refine l_aload_n C 2 d_law_1181 rfl ?_
  refine l_cI C (st := [.int x1]) M_B_searchSteps [] d_law_1182 lk_179 cv_B_searchSteps rfl rfl (Nf_58 (by decide)) rfl (Nat.le_of_ble_eq_true rfl) ⟨Nat.le_of_ble_eq_true rfl, Nat.le_of_ble_eq_true rfl⟩ ⟨rfl, rfl⟩ (Nat.le_refl _) h1 (fun x2 w2 h2 => ?_)
  refine l_icmp_eq C 1338 d_law_1185 (by decide) (fun c0 => ?_) (fun c0 => absurd h2.1.symm c0)
  exact hnext w2 h2.2
theorem lc_40 {p : Program} {l : Launch} {e : Env} {s : State} {m : MethodId} {below : List Frame} {meth : Method} {c : Code} {sb SL : Nat} {xs : Nat → Int32} {D : va_G} {cA : Nat → ClassId} (C : LC p s m meth c sb SL xs D cA) {INV : Wd → Prop} (hop : Op_candidates INV) {j : Nat} (hj : 6 * j + 6 ≤ SL) (hL : SL ≤ 3072) {w : Wd} (hI : INV w) (hnext : ∀ w2, INV w2 → LW p l e s m below meth c sb D cA 1338 [(0, .ref sb), (1, .ref (s.heap.size + 0)), (2, .ref (s.heap.size + 39)), (3, .int (nI (6 * j)))] [] (Nf 1) (Rf 1) w2 19967) : LW p l e s m below meth c sb D cA 1190 [(0, .ref sb), (1, .ref (s.heap.size + 0)), (2, .ref (s.heap.size + 39)), (3, .int (nI (6 * j)))] [] (Nf 1) (Rf 1) w 19967 := by
  refine l_aload_n C 1 d_law_1190 rfl ?_
  refine l_cI C (st := []) M_A_candidates [] d_law_1191 lk_180 cv_A_candidates rfl rfl (Nf_58 (by decide)) rfl (Nat.le_of_ble_eq_true rfl) ⟨Nat.le_of_ble_eq_true rfl, Nat.le_of_ble_eq_true rfl⟩ ⟨rfl, rfl⟩ (Nat.le_refl _) (hop  w hI) (fun x1 w1 h1 => ?_)
  refine l_aload_n C 2 d_law_1194 rfl ?_
  refine l_cI C (st := [.int x1]) M_B_candidates [] d_law_1195 lk_183 cv_B_candidates rfl rfl (Nf_58 (by decide)) rfl (Nat.le_of_ble_eq_true rfl) ⟨Nat.le_of_ble_eq_true rfl, Nat.le_of_ble_eq_true rfl⟩ ⟨rfl, rfl⟩ (Nat.le_refl _) h1 (fun x2 w2 h2 => ?_)
  refine l_icmp_eq C 1338 d_law_1198 (by decide) (fun c0 => ?_) (fun c0 => absurd h2.1.symm c0)
  exact hnext w2 h2.2
theorem lc_41 {p : Program} {l : Launch} {e : Env} {s : State} {m : MethodId} {below : List Frame} {meth : Method} {c : Code} {sb SL : Nat} {xs : Nat → Int32} {D : va_G} {cA : Nat → ClassId} (C : LC p s m meth c sb SL xs D cA) {INV : Wd → Prop} (hop : Op_takeSolution INV) {j : Nat} (hj : 6 * j + 6 ≤ SL) (hL : SL ≤ 3072) {w : Wd} (hI : INV w) (hnext : ∀ w2, INV w2 → LW p l e s m below meth c sb D cA 1338 [(0, .ref sb), (1, .ref (s.heap.size + 0)), (2, .ref (s.heap.size + 39)), (3, .int (nI (6 * j)))] [] (Nf 1) (Rf 1) w2 19967) : LW p l e s m below meth c sb D cA 1203 [(0, .ref sb), (1, .ref (s.heap.size + 0)), (2, .ref (s.heap.size + 39)), (3, .int (nI (6 * j)))] [] (Nf 1) (Rf 1) w 19967 := by
  refine l_aload_n C 1 d_law_1203 rfl ?_
  refine l_cI C (st := []) M_A_takeSolution [] d_law_1204 lk_184 cv_A_takeSolution rfl rfl (Nf_58 (by decide)) rfl (Nat.le_of_ble_eq_true rfl) ⟨Nat.le_of_ble_eq_true rfl, Nat.le_of_ble_eq_true rfl⟩ ⟨rfl, rfl⟩ (Nat.le_refl _) (hop  w hI) (fun x1 w1 h1 => ?_)
  refine l_aload_n C 2 d_law_1207 rfl ?_
  refine l_cI C (st := [.int x1]) M_B_takeSolution [] d_law_1208 lk_187 cv_B_takeSolution rfl rfl (Nf_58 (by decide)) rfl (Nat.le_of_ble_eq_true rfl) ⟨Nat.le_of_ble_eq_true rfl, Nat.le_of_ble_eq_true rfl⟩ ⟨rfl, rfl⟩ (Nat.le_refl _) h1 (fun x2 w2 h2 => ?_)
  refine l_icmp_eq C 1338 d_law_1211 (by decide) (fun c0 => ?_) (fun c0 => absurd h2.1.symm c0)
  exact hnext w2 h2.2
theorem lc_42 {p : Program} {l : Launch} {e : Env} {s : State} {m : MethodId} {below : List Frame} {meth : Method} {c : Code} {sb SL : Nat} {xs : Nat → Int32} {D : va_G} {cA : Nat → ClassId} (C : LC p s m meth c sb SL xs D cA) {INV : Wd → Prop} (hop : Op_append INV) {j : Nat} (hj : 6 * j + 6 ≤ SL) (hL : SL ≤ 3072) {w : Wd} (hI : INV w) (hnext : ∀ w2, INV w2 → LW p l e s m below meth c sb D cA 1338 [(0, .ref sb), (1, .ref (s.heap.size + 0)), (2, .ref (s.heap.size + 39)), (3, .int (nI (6 * j)))] [] (Nf 1) (Rf 1) w2 19967) : LW p l e s m below meth c sb D cA 1216 [(0, .ref sb), (1, .ref (s.heap.size + 0)), (2, .ref (s.heap.size + 39)), (3, .int (nI (6 * j)))] [] (Nf 1) (Rf 1) w 19967 := by
  refine l_aload_n C 1 d_law_1216 rfl ?_
  refine l_aload_n C 0 d_law_1217 rfl ?_
  refine l_iload_n C 3 d_law_1218 rfl ?_
  refine l_iconst C (v := 1) d_law_1219 (by decide) ?_
  refine l_iadd C d_law_1220 ?_
  refine l_sld C d_law_1221 (ix_1 hj hL) ?_
  refine l_cI C (st := []) M_A_append [.int (xs (nI (6 * j) + 1).toNatClampNeg)] d_law_1222 lk_188 cv_A_append rfl rfl (Nf_58 (by decide)) rfl (Nat.le_of_ble_eq_true rfl) ⟨Nat.le_of_ble_eq_true rfl, Nat.le_of_ble_eq_true rfl⟩ ⟨rfl, rfl⟩ (Nat.le_refl _) (hop _ w hI) (fun x1 w1 h1 => ?_)
  refine l_aload_n C 2 d_law_1225 rfl ?_
  refine l_aload_n C 0 d_law_1226 rfl ?_
  refine l_iload_n C 3 d_law_1227 rfl ?_
  refine l_iconst C (v := 1) d_law_1228 (by decide) ?_
  refine l_iadd C d_law_1229 ?_
  refine l_sld C d_law_1230 (ix_1 hj hL) ?_
  refine l_cI C (st := [.int x1]) M_B_append [.int (xs (nI (6 * j) + 1).toNatClampNeg)] d_law_1231 lk_191 cv_B_append rfl rfl (Nf_58 (by decide)) rfl (Nat.le_of_ble_eq_true rfl) ⟨Nat.le_of_ble_eq_true rfl, Nat.le_of_ble_eq_true rfl⟩ ⟨rfl, rfl⟩ (Nat.le_refl _) h1 (fun x2 w2 h2 => ?_)
  refine l_icmp_eq C 1338 d_law_1234 (by decide) (fun c0 => ?_) (fun c0 => absurd h2.1.symm c0)
  exact hnext w2 h2.2
theorem lc_43 {p : Program} {l : Launch} {e : Env} {s : State} {m : MethodId} {below : List Frame} {meth : Method} {c : Code} {sb SL : Nat} {xs : Nat → Int32} {D : va_G} {cA : Nat → ClassId} (C : LC p s m meth c sb SL xs D cA) {INV : Wd → Prop} (hop : Op_clearText INV) {j : Nat} (hj : 6 * j + 6 ≤ SL) (hL : SL ≤ 3072) {w : Wd} (hI : INV w) (hnext : ∀ w2, INV w2 → LW p l e s m below meth c sb D cA 1338 [(0, .ref sb), (1, .ref (s.heap.size + 0)), (2, .ref (s.heap.size + 39)), (3, .int (nI (6 * j)))] [] (Nf 1) (Rf 1) w2 19967) : LW p l e s m below meth c sb D cA 1239 [(0, .ref sb), (1, .ref (s.heap.size + 0)), (2, .ref (s.heap.size + 39)), (3, .int (nI (6 * j)))] [] (Nf 1) (Rf 1) w 19967 := by
  refine l_aload_n C 1 d_law_1239 rfl ?_
  refine l_cI C (st := []) M_A_clearText [] d_law_1240 lk_192 cv_A_clearText rfl rfl (Nf_58 (by decide)) rfl (Nat.le_of_ble_eq_true rfl) ⟨Nat.le_of_ble_eq_true rfl, Nat.le_of_ble_eq_true rfl⟩ ⟨rfl, rfl⟩ (Nat.le_refl _) (hop  w hI) (fun x1 w1 h1 => ?_)
  refine l_aload_n C 2 d_law_1243 rfl ?_
  refine l_cI C (st := [.int x1]) M_B_clearText [] d_law_1244 lk_195 cv_B_clearText rfl rfl (Nf_58 (by decide)) rfl (Nat.le_of_ble_eq_true rfl) ⟨Nat.le_of_ble_eq_true rfl, Nat.le_of_ble_eq_true rfl⟩ ⟨rfl, rfl⟩ (Nat.le_refl _) h1 (fun x2 w2 h2 => ?_)
  refine l_icmp_eq C 1338 d_law_1247 (by decide) (fun c0 => ?_) (fun c0 => absurd h2.1.symm c0)
  exact hnext w2 h2.2
theorem lc_44 {p : Program} {l : Launch} {e : Env} {s : State} {m : MethodId} {below : List Frame} {meth : Method} {c : Code} {sb SL : Nat} {xs : Nat → Int32} {D : va_G} {cA : Nat → ClassId} (C : LC p s m meth c sb SL xs D cA) {INV : Wd → Prop} (hop : Op_faultPosition INV) {j : Nat} (hj : 6 * j + 6 ≤ SL) (hL : SL ≤ 3072) {w : Wd} (hI : INV w) (hnext : ∀ w2, INV w2 → LW p l e s m below meth c sb D cA 1338 [(0, .ref sb), (1, .ref (s.heap.size + 0)), (2, .ref (s.heap.size + 39)), (3, .int (nI (6 * j)))] [] (Nf 1) (Rf 1) w2 19967) : LW p l e s m below meth c sb D cA 1252 [(0, .ref sb), (1, .ref (s.heap.size + 0)), (2, .ref (s.heap.size + 39)), (3, .int (nI (6 * j)))] [] (Nf 1) (Rf 1) w 19967 := by
  refine l_aload_n C 1 d_law_1252 rfl ?_
  refine l_cI C (st := []) M_A_faultPosition [] d_law_1253 lk_196 cv_A_faultPosition rfl rfl (Nf_58 (by decide)) rfl (Nat.le_of_ble_eq_true rfl) ⟨Nat.le_of_ble_eq_true rfl, Nat.le_of_ble_eq_true rfl⟩ ⟨rfl, rfl⟩ (Nat.le_refl _) (hop  w hI) (fun x1 w1 h1 => ?_)
  refine l_aload_n C 2 d_law_1256 rfl ?_
  refine l_cI C (st := [.int x1]) M_B_faultPosition [] d_law_1257 lk_199 cv_B_faultPosition rfl rfl (Nf_58 (by decide)) rfl (Nat.le_of_ble_eq_true rfl) ⟨Nat.le_of_ble_eq_true rfl, Nat.le_of_ble_eq_true rfl⟩ ⟨rfl, rfl⟩ (Nat.le_refl _) h1 (fun x2 w2 h2 => ?_)
  refine l_icmp_eq C 1338 d_law_1260 (by decide) (fun c0 => ?_) (fun c0 => absurd h2.1.symm c0)
  exact hnext w2 h2.2
theorem lc_45 {p : Program} {l : Launch} {e : Env} {s : State} {m : MethodId} {below : List Frame} {meth : Method} {c : Code} {sb SL : Nat} {xs : Nat → Int32} {D : va_G} {cA : Nat → ClassId} (C : LC p s m meth c sb SL xs D cA) {INV : Wd → Prop} (hop : Op_read INV) {j : Nat} (hj : 6 * j + 6 ≤ SL) (hL : SL ≤ 3072) {w : Wd} (hI : INV w) (hnext : ∀ w2, INV w2 → LW p l e s m below meth c sb D cA 1338 [(0, .ref sb), (1, .ref (s.heap.size + 0)), (2, .ref (s.heap.size + 39)), (3, .int (nI (6 * j)))] [] (Nf 1) (Rf 1) w2 19967) : LW p l e s m below meth c sb D cA 1265 [(0, .ref sb), (1, .ref (s.heap.size + 0)), (2, .ref (s.heap.size + 39)), (3, .int (nI (6 * j)))] [] (Nf 1) (Rf 1) w 19967 := by
  refine l_aload_n C 1 d_law_1265 rfl ?_
  refine l_cI C (st := []) M_A_read [] d_law_1266 lk_200 cv_A_read rfl rfl (Nf_58 (by decide)) rfl (Nat.le_of_ble_eq_true rfl) ⟨Nat.le_of_ble_eq_true rfl, Nat.le_of_ble_eq_true rfl⟩ ⟨rfl, rfl⟩ (Nat.le_refl _) (hop  w hI) (fun x1 w1 h1 => ?_)
  refine l_aload_n C 2 d_law_1269 rfl ?_
  refine l_cI C (st := [.int x1]) M_B_read [] d_law_1270 lk_203 cv_B_read rfl rfl (Nf_58 (by decide)) rfl (Nat.le_of_ble_eq_true rfl) ⟨Nat.le_of_ble_eq_true rfl, Nat.le_of_ble_eq_true rfl⟩ ⟨rfl, rfl⟩ (Nat.le_refl _) h1 (fun x2 w2 h2 => ?_)
  refine l_icmp_eq C 1338 d_law_1273 (by decide) (fun c0 => ?_) (fun c0 => absurd h2.1.symm c0)
  exact hnext w2 h2.2
theorem lc_46 {p : Program} {l : Launch} {e : Env} {s : State} {m : MethodId} {below : List Frame} {meth : Method} {c : Code} {sb SL : Nat} {xs : Nat → Int32} {D : va_G} {cA : Nat → ClassId} (C : LC p s m meth c sb SL xs D cA) {INV : Wd → Prop} (hop : Op_keep INV) {j : Nat} (hj : 6 * j + 6 ≤ SL) (hL : SL ≤ 3072) {w : Wd} (hI : INV w) (hnext : ∀ w2, INV w2 → LW p l e s m below meth c sb D cA 1338 [(0, .ref sb), (1, .ref (s.heap.size + 0)), (2, .ref (s.heap.size + 39)), (3, .int (nI (6 * j)))] [] (Nf 1) (Rf 1) w2 19967) : LW p l e s m below meth c sb D cA 1278 [(0, .ref sb), (1, .ref (s.heap.size + 0)), (2, .ref (s.heap.size + 39)), (3, .int (nI (6 * j)))] [] (Nf 1) (Rf 1) w 19967 := by
  refine l_aload_n C 1 d_law_1278 rfl ?_
  refine l_aload_n C 0 d_law_1279 rfl ?_
  refine l_iload_n C 3 d_law_1280 rfl ?_
  refine l_iconst C (v := 1) d_law_1281 (by decide) ?_
  refine l_iadd C d_law_1282 ?_
  refine l_sld C d_law_1283 (ix_1 hj hL) ?_
  refine l_cI C (st := []) M_A_keep [.int (xs (nI (6 * j) + 1).toNatClampNeg)] d_law_1284 lk_204 cv_A_keep rfl rfl (Nf_58 (by decide)) rfl (Nat.le_of_ble_eq_true rfl) ⟨Nat.le_of_ble_eq_true rfl, Nat.le_of_ble_eq_true rfl⟩ ⟨rfl, rfl⟩ (Nat.le_refl _) (hop _ w hI) (fun x1 w1 h1 => ?_)
  refine l_aload_n C 2 d_law_1287 rfl ?_
  refine l_aload_n C 0 d_law_1288 rfl ?_
  refine l_iload_n C 3 d_law_1289 rfl ?_
  refine l_iconst C (v := 1) d_law_1290 (by decide) ?_
  refine l_iadd C d_law_1291 ?_
  refine l_sld C d_law_1292 (ix_1 hj hL) ?_
  refine l_cI C (st := [.int x1]) M_B_keep [.int (xs (nI (6 * j) + 1).toNatClampNeg)] d_law_1293 lk_207 cv_B_keep rfl rfl (Nf_58 (by decide)) rfl (Nat.le_of_ble_eq_true rfl) ⟨Nat.le_of_ble_eq_true rfl, Nat.le_of_ble_eq_true rfl⟩ ⟨rfl, rfl⟩ (Nat.le_refl _) h1 (fun x2 w2 h2 => ?_)
  refine l_icmp_eq C 1338 d_law_1296 (by decide) (fun c0 => ?_) (fun c0 => absurd h2.1.symm c0)
  exact hnext w2 h2.2
theorem lc_47 {p : Program} {l : Launch} {e : Env} {s : State} {m : MethodId} {below : List Frame} {meth : Method} {c : Code} {sb SL : Nat} {xs : Nat → Int32} {D : va_G} {cA : Nat → ClassId} (C : LC p s m meth c sb SL xs D cA) {INV : Wd → Prop} (hop : Op_restore INV) {j : Nat} (hj : 6 * j + 6 ≤ SL) (hL : SL ≤ 3072) {w : Wd} (hI : INV w) (hnext : ∀ w2, INV w2 → LW p l e s m below meth c sb D cA 1338 [(0, .ref sb), (1, .ref (s.heap.size + 0)), (2, .ref (s.heap.size + 39)), (3, .int (nI (6 * j)))] [] (Nf 1) (Rf 1) w2 19967) : LW p l e s m below meth c sb D cA 1301 [(0, .ref sb), (1, .ref (s.heap.size + 0)), (2, .ref (s.heap.size + 39)), (3, .int (nI (6 * j)))] [] (Nf 1) (Rf 1) w 19967 := by
  refine l_aload_n C 1 d_law_1301 rfl ?_
  refine l_aload_n C 0 d_law_1302 rfl ?_
  refine l_iload_n C 3 d_law_1303 rfl ?_
  refine l_iconst C (v := 1) d_law_1304 (by decide) ?_
  refine l_iadd C d_law_1305 ?_
  refine l_sld C d_law_1306 (ix_1 hj hL) ?_
  refine l_cI C (st := []) M_A_restore [.int (xs (nI (6 * j) + 1).toNatClampNeg)] d_law_1307 lk_208 cv_A_restore rfl rfl (Nf_58 (by decide)) rfl (Nat.le_of_ble_eq_true rfl) ⟨Nat.le_of_ble_eq_true rfl, Nat.le_of_ble_eq_true rfl⟩ ⟨rfl, rfl⟩ (Nat.le_refl _) (hop _ w hI) (fun x1 w1 h1 => ?_)
  refine l_aload_n C 2 d_law_1310 rfl ?_
  refine l_aload_n C 0 d_law_1311 rfl ?_
  refine l_iload_n C 3 d_law_1312 rfl ?_
  refine l_iconst C (v := 1) d_law_1313 (by decide) ?_
  refine l_iadd C d_law_1314 ?_
  refine l_sld C d_law_1315 (ix_1 hj hL) ?_
  refine l_cI C (st := [.int x1]) M_B_restore [.int (xs (nI (6 * j) + 1).toNatClampNeg)] d_law_1316 lk_211 cv_B_restore rfl rfl (Nf_58 (by decide)) rfl (Nat.le_of_ble_eq_true rfl) ⟨Nat.le_of_ble_eq_true rfl, Nat.le_of_ble_eq_true rfl⟩ ⟨rfl, rfl⟩ (Nat.le_refl _) h1 (fun x2 w2 h2 => ?_)
  refine l_icmp_eq C 1338 d_law_1319 (by decide) (fun c0 => ?_) (fun c0 => absurd h2.1.symm c0)
  exact hnext w2 h2.2
theorem lc_48 {p : Program} {l : Launch} {e : Env} {s : State} {m : MethodId} {below : List Frame} {meth : Method} {c : Code} {sb SL : Nat} {xs : Nat → Int32} {D : va_G} {cA : Nat → ClassId} (C : LC p s m meth c sb SL xs D cA) {INV : Wd → Prop} (hop : Op_checksum INV) {j : Nat} (hj : 6 * j + 6 ≤ SL) (hL : SL ≤ 3072) {w : Wd} (hI : INV w) (hnext : ∀ w2, INV w2 → LW p l e s m below meth c sb D cA 1338 [(0, .ref sb), (1, .ref (s.heap.size + 0)), (2, .ref (s.heap.size + 39)), (3, .int (nI (6 * j)))] [] (Nf 1) (Rf 1) w2 19967) : LW p l e s m below meth c sb D cA 1324 [(0, .ref sb), (1, .ref (s.heap.size + 0)), (2, .ref (s.heap.size + 39)), (3, .int (nI (6 * j)))] [] (Nf 1) (Rf 1) w 19967 := by
  refine l_aload_n C 1 d_law_1324 rfl ?_
  refine l_cL C (st := []) M_A_checksum [] d_law_1325 lk_212 cv_A_checksum rfl rfl (Nf_58 (by decide)) rfl (Nat.le_of_ble_eq_true rfl) ⟨Nat.le_of_ble_eq_true rfl, Nat.le_of_ble_eq_true rfl⟩ ⟨rfl, rfl⟩ (Nat.le_refl _) (hop  w hI) (fun x1 w1 h1 => ?_)
  refine l_aload_n C 2 d_law_1328 rfl ?_
  refine l_cL C (st := [.long x1]) M_B_checksum [] d_law_1329 lk_215 cv_B_checksum rfl rfl (Nf_58 (by decide)) rfl (Nat.le_of_ble_eq_true rfl) ⟨Nat.le_of_ble_eq_true rfl, Nat.le_of_ble_eq_true rfl⟩ ⟨rfl, rfl⟩ (Nat.le_refl _) h1 (fun x2 w2 h2 => ?_)
  refine l_lcmp C d_law_1332 ?_
  refine l_if_eq C 1338 d_law_1333 (by decide) (fun c0 => ?_) (fun c0 => absurd ((lg_cmp_eq _ _).mpr h2.1.symm) c0)
  exact hnext w2 h2.2
set_option maxHeartbeats 4000000 in
theorem law_loop {p : Program} {l : Launch} {e : Env} {s : State} {m : MethodId} {below : List Frame} {meth : Method} {c : Code} {sb SL : Nat} {xs : Nat → Int32} {D : va_G} {cA : Nat → ClassId} (C : LC p s m meth c sb SL xs D cA) {INV : Wd → Prop} (op0 : Op_setGroup INV) (op1 : Op_order INV) (op2 : Op_sum INV) (op3 : Op_multiple INV) (op4 : Op_orderOf INV) (op5 : Op_automorphisms INV) (op6 : Op_image INV) (op7 : Op_setHole INV) (op8 : Op_hole INV) (op9 : Op_put INV) (op10 : Op_take INV) (op11 : Op_shift INV) (op12 : Op_apply INV) (op13 : Op_multiply INV) (op14 : Op_exchange INV) (op15 : Op_improve INV) (op16 : Op_undo INV) (op17 : Op_block INV) (op18 : Op_normal INV) (op19 : Op_stabilizer INV) (op20 : Op_blockSize INV) (op21 : Op_count INV) (op22 : Op_covered INV) (op23 : Op_greatestCount INV) (op24 : Op_index INV) (op25 : Op_deficiency INV) (op26 : Op_isMultiplier INV) (op27 : Op_multipliers INV) (op28 : Op_symmetries INV) (op29 : Op_canonical INV) (op30 : Op_isEquivalent INV) (op31 : Op_designBlocks INV) (op32 : Op_designBlock INV) (op33 : Op_replication INV) (op34 : Op_pairs INV) (op35 : Op_intersections INV) (op36 : Op_rank INV) (op37 : Op_disjointBlocks INV) (op38 : Op_search INV) (op39 : Op_searchSteps INV) (op40 : Op_candidates INV) (op41 : Op_takeSolution INV) (op42 : Op_append INV) (op43 : Op_clearText INV) (op44 : Op_faultPosition INV) (op45 : Op_read INV) (op46 : Op_keep INV) (op47 : Op_restore INV) (op48 : Op_checksum INV) (hL : SL ≤ 3072) : ∀ (f j : Nat) (w : Wd), INV w → 6 * j ≤ SL + 6 → SL + 7 ≤ 6 * j + f → LW p l e s m below meth c sb D cA 18 [(0, .ref sb), (1, .ref (s.heap.size + 0)), (2, .ref (s.heap.size + 39)), (3, .int (nI (6 * j)))] [] (Nf 1) (Rf 1) w 19967 := by
  intro f
  induction f with
  | zero => intro j w hI h1 h2; omega
  | succ f ih =>
    intro j w hI h1 h2
    have hnext : ∀ w2, INV w2 → 6 * j + 6 ≤ SL → LW p l e s m below meth c sb D cA 1338 [(0, .ref sb), (1, .ref (s.heap.size + 0)), (2, .ref (s.heap.size + 39)), (3, .int (nI (6 * j)))] [] (Nf 1) (Rf 1) w2 19967 := by
      intro w2 hI2 hj
      refine l_iinc C (v := nI (6 * (j + 1))) (L' := [(0, .ref sb), (1, .ref (s.heap.size + 0)), (2, .ref (s.heap.size + 39)), (3, .int (nI (6 * (j + 1))))]) 3 [1, 2, 3, 0] d_law_1338 rfl (by show nI (6 * j) + nI 6 = nI (6 * (j + 1)); rw [nI_add, Nat.mul_succ]) (by decide) rfl ?_
      refine l_goto C 18 d_law_1341 (by decide) ?_
      exact ih (j + 1) w2 hI2 (by omega) (by omega)
    refine l_iload_n C 3 d_law_18 rfl ?_
    refine l_aload_n C 0 d_law_19 rfl ?_
    refine l_slen C d_law_20 ?_
    refine l_bipush C (v := 6) d_law_21 (by decide) ?_
    refine l_isub C d_law_23 ?_
    refine l_icmp_gt C 1344 d_law_24 (by decide) (fun c0 => ?_) (fun c0 => ?_)
    · refine l_iconst C (v := 1) d_law_1344 (by decide) ?_
      exact l_true C d_law_1345 (Nat.le_refl 58) (Nat.le_refl _)
    · have hj : 6 * j + 6 ≤ SL := by
        rcases Nat.lt_or_ge SL (6 * j + 6) with h | h
        · exfalso
          apply c0
          show nI SL - nI 6 < nI (6 * j)
          rw [Int32.lt_iff_toInt_lt, pk_sub_toInt (by omega) (by decide), nI_toInt (by omega)]
          omega
        · exact h
      refine l_aload_n C 0 d_law_27 rfl ?_
      refine l_iload_n C 3 d_law_28 rfl ?_
      refine l_sld C d_law_29 (vp_in_nI (by omega) (by omega)) ?_
      refine l_bipush C (v := 63) d_law_30 (by decide) ?_
      refine l_iand C d_law_32 ?_
      obtain ⟨t, ht, e0⟩ := pk_andE (xs (nI (6 * j)).toNatClampNeg) (m := 63) 6 (by decide)
      rw [e0]
      have hc : t = 0 ∨ t = 1 ∨ t = 2 ∨ t = 3 ∨ t = 4 ∨ t = 5 ∨ t = 6 ∨ t = 7 ∨ t = 8 ∨ t = 9 ∨ t = 10 ∨ t = 11 ∨ t = 12 ∨ t = 13 ∨ t = 14 ∨ t = 15 ∨ t = 16 ∨ t = 17 ∨ t = 18 ∨ t = 19 ∨ t = 20 ∨ t = 21 ∨ t = 22 ∨ t = 23 ∨ t = 24 ∨ t = 25 ∨ t = 26 ∨ t = 27 ∨ t = 28 ∨ t = 29 ∨ t = 30 ∨ t = 31 ∨ t = 32 ∨ t = 33 ∨ t = 34 ∨ t = 35 ∨ t = 36 ∨ t = 37 ∨ t = 38 ∨ t = 39 ∨ t = 40 ∨ t = 41 ∨ t = 42 ∨ t = 43 ∨ t = 44 ∨ t = 45 ∨ t = 46 ∨ t = 47 ∨ t = 48 ∨ 49 ≤ t := by omega
      rcases hc with rfl | rfl | rfl | rfl | rfl | rfl | rfl | rfl | rfl | rfl | rfl | rfl | rfl | rfl | rfl | rfl | rfl | rfl | rfl | rfl | rfl | rfl | rfl | rfl | rfl | rfl | rfl | rfl | rfl | rfl | rfl | rfl | rfl | rfl | rfl | rfl | rfl | rfl | rfl | rfl | rfl | rfl | rfl | rfl | rfl | rfl | rfl | rfl | rfl | hc
      · exact l_swIn C 244 d_law_33 (by decide) (by decide) (off := 211) (by decide) (by decide) (lc_0 C op0 hj hL hI (fun w2 h => hnext w2 h hj))
      · exact l_swIn C 277 d_law_33 (by decide) (by decide) (off := 244) (by decide) (by decide) (lc_1 C op1 hj hL hI (fun w2 h => hnext w2 h hj))
      · exact l_swIn C 290 d_law_33 (by decide) (by decide) (off := 257) (by decide) (by decide) (lc_2 C op2 hj hL hI (fun w2 h => hnext w2 h hj))
      · exact l_swIn C 323 d_law_33 (by decide) (by decide) (off := 290) (by decide) (by decide) (lc_3 C op3 hj hL hI (fun w2 h => hnext w2 h hj))
      · exact l_swIn C 356 d_law_33 (by decide) (by decide) (off := 323) (by decide) (by decide) (lc_4 C op4 hj hL hI (fun w2 h => hnext w2 h hj))
      · exact l_swIn C 379 d_law_33 (by decide) (by decide) (off := 346) (by decide) (by decide) (lc_5 C op5 hj hL hI (fun w2 h => hnext w2 h hj))
      · exact l_swIn C 392 d_law_33 (by decide) (by decide) (off := 359) (by decide) (by decide) (lc_6 C op6 hj hL hI (fun w2 h => hnext w2 h hj))
      · exact l_swIn C 425 d_law_33 (by decide) (by decide) (off := 392) (by decide) (by decide) (lc_7 C op7 hj hL hI (fun w2 h => hnext w2 h hj))
      · exact l_swIn C 458 d_law_33 (by decide) (by decide) (off := 425) (by decide) (by decide) (lc_8 C op8 hj hL hI (fun w2 h => hnext w2 h hj))
      · exact l_swIn C 472 d_law_33 (by decide) (by decide) (off := 439) (by decide) (by decide) (lc_9 C op9 hj hL hI (fun w2 h => hnext w2 h hj))
      · exact l_swIn C 505 d_law_33 (by decide) (by decide) (off := 472) (by decide) (by decide) (lc_10 C op10 hj hL hI (fun w2 h => hnext w2 h hj))
      · exact l_swIn C 538 d_law_33 (by decide) (by decide) (off := 505) (by decide) (by decide) (lc_11 C op11 hj hL hI (fun w2 h => hnext w2 h hj))
      · exact l_swIn C 571 d_law_33 (by decide) (by decide) (off := 538) (by decide) (by decide) (lc_12 C op12 hj hL hI (fun w2 h => hnext w2 h hj))
      · exact l_swIn C 594 d_law_33 (by decide) (by decide) (off := 561) (by decide) (by decide) (lc_13 C op13 hj hL hI (fun w2 h => hnext w2 h hj))
      · exact l_swIn C 617 d_law_33 (by decide) (by decide) (off := 584) (by decide) (by decide) (lc_14 C op14 hj hL hI (fun w2 h => hnext w2 h hj))
      · exact l_swIn C 660 d_law_33 (by decide) (by decide) (off := 627) (by decide) (by decide) (lc_15 C op15 hj hL hI (fun w2 h => hnext w2 h hj))
      · exact l_swIn C 683 d_law_33 (by decide) (by decide) (off := 650) (by decide) (by decide) (lc_16 C op16 hj hL hI (fun w2 h => hnext w2 h hj))
      · exact l_swIn C 696 d_law_33 (by decide) (by decide) (off := 663) (by decide) (by decide) (lc_17 C op17 hj hL hI (fun w2 h => hnext w2 h hj))
      · exact l_swIn C 720 d_law_33 (by decide) (by decide) (off := 687) (by decide) (by decide) (lc_18 C op18 hj hL hI (fun w2 h => hnext w2 h hj))
      · exact l_swIn C 744 d_law_33 (by decide) (by decide) (off := 711) (by decide) (by decide) (lc_19 C op19 hj hL hI (fun w2 h => hnext w2 h hj))
      · exact l_swIn C 767 d_law_33 (by decide) (by decide) (off := 734) (by decide) (by decide) (lc_20 C op20 hj hL hI (fun w2 h => hnext w2 h hj))
      · exact l_swIn C 780 d_law_33 (by decide) (by decide) (off := 747) (by decide) (by decide) (lc_21 C op21 hj hL hI (fun w2 h => hnext w2 h hj))
      · exact l_swIn C 803 d_law_33 (by decide) (by decide) (off := 770) (by decide) (by decide) (lc_22 C op22 hj hL hI (fun w2 h => hnext w2 h hj))
      · exact l_swIn C 816 d_law_33 (by decide) (by decide) (off := 783) (by decide) (by decide) (lc_23 C op23 hj hL hI (fun w2 h => hnext w2 h hj))
      · exact l_swIn C 829 d_law_33 (by decide) (by decide) (off := 796) (by decide) (by decide) (lc_24 C op24 hj hL hI (fun w2 h => hnext w2 h hj))
      · exact l_swIn C 842 d_law_33 (by decide) (by decide) (off := 809) (by decide) (by decide) (lc_25 C op25 hj hL hI (fun w2 h => hnext w2 h hj))
      · exact l_swIn C 865 d_law_33 (by decide) (by decide) (off := 832) (by decide) (by decide) (lc_26 C op26 hj hL hI (fun w2 h => hnext w2 h hj))
      · exact l_swIn C 888 d_law_33 (by decide) (by decide) (off := 855) (by decide) (by decide) (lc_27 C op27 hj hL hI (fun w2 h => hnext w2 h hj))
      · exact l_swIn C 902 d_law_33 (by decide) (by decide) (off := 869) (by decide) (by decide) (lc_28 C op28 hj hL hI (fun w2 h => hnext w2 h hj))
      · exact l_swIn C 915 d_law_33 (by decide) (by decide) (off := 882) (by decide) (by decide) (lc_29 C op29 hj hL hI (fun w2 h => hnext w2 h hj))
      · exact l_swIn C 939 d_law_33 (by decide) (by decide) (off := 906) (by decide) (by decide) (lc_30 C op30 hj hL hI (fun w2 h => hnext w2 h hj))
      · exact l_swIn C 962 d_law_33 (by decide) (by decide) (off := 929) (by decide) (by decide) (lc_31 C op31 hj hL hI (fun w2 h => hnext w2 h hj))
      · exact l_swIn C 975 d_law_33 (by decide) (by decide) (off := 942) (by decide) (by decide) (lc_32 C op32 hj hL hI (fun w2 h => hnext w2 h hj))
      · exact l_swIn C 999 d_law_33 (by decide) (by decide) (off := 966) (by decide) (by decide) (lc_33 C op33 hj hL hI (fun w2 h => hnext w2 h hj))
      · exact l_swIn C 1022 d_law_33 (by decide) (by decide) (off := 989) (by decide) (by decide) (lc_34 C op34 hj hL hI (fun w2 h => hnext w2 h hj))
      · exact l_swIn C 1055 d_law_33 (by decide) (by decide) (off := 1022) (by decide) (by decide) (lc_35 C op35 hj hL hI (fun w2 h => hnext w2 h hj))
      · exact l_swIn C 1078 d_law_33 (by decide) (by decide) (off := 1045) (by decide) (by decide) (lc_36 C op36 hj hL hI (fun w2 h => hnext w2 h hj))
      · exact l_swIn C 1101 d_law_33 (by decide) (by decide) (off := 1068) (by decide) (by decide) (lc_37 C op37 hj hL hI (fun w2 h => hnext w2 h hj))
      · exact l_swIn C 1114 d_law_33 (by decide) (by decide) (off := 1081) (by decide) (by decide) (lc_38 C op38 hj hL hI (fun w2 h => hnext w2 h hj))
      · exact l_swIn C 1177 d_law_33 (by decide) (by decide) (off := 1144) (by decide) (by decide) (lc_39 C op39 hj hL hI (fun w2 h => hnext w2 h hj))
      · exact l_swIn C 1190 d_law_33 (by decide) (by decide) (off := 1157) (by decide) (by decide) (lc_40 C op40 hj hL hI (fun w2 h => hnext w2 h hj))
      · exact l_swIn C 1203 d_law_33 (by decide) (by decide) (off := 1170) (by decide) (by decide) (lc_41 C op41 hj hL hI (fun w2 h => hnext w2 h hj))
      · exact l_swIn C 1216 d_law_33 (by decide) (by decide) (off := 1183) (by decide) (by decide) (lc_42 C op42 hj hL hI (fun w2 h => hnext w2 h hj))
      · exact l_swIn C 1239 d_law_33 (by decide) (by decide) (off := 1206) (by decide) (by decide) (lc_43 C op43 hj hL hI (fun w2 h => hnext w2 h hj))
      · exact l_swIn C 1252 d_law_33 (by decide) (by decide) (off := 1219) (by decide) (by decide) (lc_44 C op44 hj hL hI (fun w2 h => hnext w2 h hj))
      · exact l_swIn C 1265 d_law_33 (by decide) (by decide) (off := 1232) (by decide) (by decide) (lc_45 C op45 hj hL hI (fun w2 h => hnext w2 h hj))
      · exact l_swIn C 1278 d_law_33 (by decide) (by decide) (off := 1245) (by decide) (by decide) (lc_46 C op46 hj hL hI (fun w2 h => hnext w2 h hj))
      · exact l_swIn C 1301 d_law_33 (by decide) (by decide) (off := 1268) (by decide) (by decide) (lc_47 C op47 hj hL hI (fun w2 h => hnext w2 h hj))
      · exact l_swIn C 1324 d_law_33 (by decide) (by decide) (off := 1291) (by decide) (by decide) (lc_48 C op48 hj hL hI (fun w2 h => hnext w2 h hj))
      · refine l_swOut C 1338 d_law_33 (Or.inr ?_) (by decide) (hnext w hI hj)
        rw [nI_toInt (by omega)]
        omega
