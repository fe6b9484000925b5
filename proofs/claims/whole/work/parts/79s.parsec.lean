/-- one block: the object -/
theorem t_block {len n m p k : Nat} {tx : Nat → Nat} {w0 : Wd} {K : Wd → Prop} (hG : Gd n m w0) (hX : tX len tx w0) (hp : w0.1 32 5 = nI p) (hpl : p ≤ len) (hk : k < 6) (h4 : w0.1 32 4 = nI k) (hn : w0.1 32 6 = -4)
    (hT : (bkR len tx n m 160 0 p).1 = true → ∀ w, Mo [32, 34] [] w0 w → w.1 32 3 = w0.1 32 3 → w.1 32 4 = nI (k + 1) → w.1 32 5 = nI (bkR len tx n m 160 0 p).2.2 → w.1 32 6 = -4 → w.2 34 k = lN (bkR len tx n m 160 0 p).2.1 → (∀ i, i ≠ k → w.2 34 i = w0.2 34 i) → K w)
    (hF : (bkR len tx n m 160 0 p).1 = false → ∀ w, Mo [32, 34] [] w0 w → w.1 32 3 = w0.1 32 3 → w.1 32 6 = nI (bkR len tx n m 160 0 p).2.2 → K w) : RunV 1 M_T_parseBlock [.ref 32] w0 K := by
  have ok := hG.1.1
  have hv := ok.2.2
  have h40 := pow40 hv
  have h160 := hX.1
  have key : ∀ f e S q w, e + f = 160 → 2 * e ≤ q → q ≤ len → S < 2 ^ (n * m) → OnI 32 w0 w → w.1 32 3 = w0.1 32 3 → w.1 32 4 = nI k → w.1 32 5 = nI q → w.1 32 6 = -4 → bkR len tx n m f S q = bkR len tx n m 160 0 p → E 1 M_T_parseBlock 4 [(0, .ref 32), (1, .long (lN S)), (3, .int (nI e))] [] w (qV 1 K) := by
    intro f
    induction f with
    | zero =>
      intro e S q w he hq hql
      omega
    | succ f ih =>
      intro e S q w he hq hql hS hm h3 h4w h5 h6 hb
      rw [bkR] at hb
      have hel := elR_ok (tx := tx) ok hql
      have hGw : Gd n m w := hG.mo hm.mo (by decide)
      have hXw := hX.on hm h3
      refine w_T_parseBlock_4 (pk_le 160 e (fun c => by omega) (fun _ a1 e1 => ?_))
      rw [h5] at e1
      subst e1
      refine t_elem hGw hXw h5 hql (fun w2 h2 => ?_)
      have o2 : OnI 32 w0 w2 := hm.tr h2.1
      have k3 : w2.1 32 3 = w0.1 32 3 := h2.2.1.trans h3
      have k4 : w2.1 32 4 = nI k := h2.2.2.1.trans h4w
      have mm : ∀ {w' : Wd}, OnI 32 w0 w' → Mo [32, 34] [] w0 w' := fun o => o.mo.mono (by decide) (fun _ c => absurd c List.not_mem_nil)
      unfold vR
      cases hr : (elR len tx n m q).1 with
      | false =>
        rw [hr, if_neg (by decide)] at hb
        rw [if_neg (by decide)]
        refine ⟨fun c => absurd c (by decide), fun _ => ?_⟩
        refine hF (by rw [← hb]) w2 (mm o2) k3 ?_
        rw [← hb]
        exact h2.2.2.2.2 hr
      | true =>
        rw [hr, if_pos rfl] at hb
        rw [if_pos rfl]
        have hev := hel.2 hr
        have k5 := (h2.2.2.2.1 hr).1
        have k6 : w2.1 32 6 = -4 := (h2.2.2.2.1 hr).2.trans h6
        have hX2 := hX.on o2 k3
        generalize hxe : (elR len tx n m q).2.1 = x at hb hev
        generalize hqe : (elR len tx n m q).2.2 = q2 at hb hev hel k5
        refine ⟨fun _ => ?_, fun c => absurd (nI_le (a := 0) (b := x) (Nat.zero_le _) (by omega)) c⟩
        refine t_holds (by omega) (by omega) ?_
        cases hbit : S.testBit x with
        | true =>
          rw [hbit, if_pos rfl] at hb
          refine zt (fun w17 e17 => hF (by rw [← hb]) w17 (mm (by rw [e17]; exact o2.up _ _)) (by rw [e17, upI_ne (by omega)]; exact k3) ?_)
          rw [← hb, e17, upI_eq]
        | false =>
          rw [hbit, if_neg (by decide)] at hb
          have hS2 : S ||| 2 ^ x < 2 ^ (n * m) := Nat.or_lt_two_pow hS (Nat.pow_lt_pow_right (by decide) hev.1)
          refine zf (fun b6 e6 => ?_)
          rw [l_pow (by omega), fb_orL] at e6
          subst e6
          rw [show (59 : Int32) = nI 59 from rfl, show (44 : Int32) = nI 44 from rfl]
          refine t_nx hX2 k5 hel.1 (by decide) (by decide) ?_
          by_cases e59 : hrF len tx q2 = 59
          · rw [if_pos e59] at hb
            rw [decide_eq_true e59]
            refine zt (fun w14 e14 => ?_)
            rw [k5, i1, nI_add] at e14
            have q4 : w14.1 32 4 = nI k := by rw [e14, upI_ne (by omega)]; exact k4
            rw [q4, nI_clamp (by omega)]
            refine ⟨vp_in_nI (by omega) (by decide), fun w15 e15 w16 e16 => ?_⟩
            have q5 : w15.1 32 4 = nI k := by rw [e15, upL_1]; exact q4
            rw [q5, i1, nI_add] at e16
            have o14 : OnI 32 w0 w14 := by rw [e14]; exact o2.up _ _
            refine hT (by rw [← hb]) w16 ?_ ?_ (by rw [e16, upI_eq]) ?_ ?_ ?_ (fun i hi => ?_)
            · rw [e16, e15]
              exact ((mm o14).upL _ (Or.inl (by decide))).upI _ (Or.inl (by decide))
            · rw [e16, upI_ne (by omega), e15, upL_1, e14, upI_ne (by omega)]
              exact k3
            · rw [← hb, e16, upI_ne (by omega), e15, upL_1, e14, upI_eq]
            · rw [e16, upI_ne (by omega), e15, upL_1, e14, upI_ne (by omega)]
              exact k6
            · rw [← hb, e16, upI_2, e15, upL_eq]
            · rw [e16, upI_2, e15, upL_ne (by omega), o14.2]
          · rw [if_neg e59] at hb
            rw [decide_eq_false e59]
            refine zf (t_nx hX2 k5 hel.1 (by decide) (by decide) ?_)
            by_cases e44 : hrF len tx q2 = 44
            · rw [if_pos e44] at hb
              rw [decide_eq_true e44]
              have hq2 := hr_lt e44 (by decide)
              refine zt' (fun w11 e11 a12 e12 => ?_)
              rw [k5, i1, nI_add] at e11
              rw [i1, nI_add] at e12
              subst e12
              exact ih (e + 1) _ (q2 + 1) w11 (by omega) (by omega) hq2 hS2 (by rw [e11]; exact o2.up _ _) (by rw [e11, upI_ne (by omega)]; exact k3) (by rw [e11, upI_ne (by omega)]; exact k4) (by rw [e11, upI_eq]) (by rw [e11, upI_ne (by omega)]; exact k6) hb
            · rw [if_neg e44] at hb
              rw [decide_eq_false e44]
              refine zf' (fun w13 e13 => hF (by rw [← hb]) w13 (mm (by rw [e13]; exact o2.up _ _)) (by rw [e13, upI_ne (by omega)]; exact k3) ?_)
              rw [← hb, e13, upI_eq, k5]
  exact r_T_parseBlock (key 160 0 0 p w0 (by omega) (by omega) hpl (Nat.two_pow_pos _) (OnI.rf _ _) rfl h4 hp hn rfl)
theorem nI_n4 {q : Nat} (h : q < 2 ^ 31) : ¬ nI q = -4 := fun c => by
  have h1 := nI_n0 h
  rw [c] at h1
  exact h1 (by decide)
theorem t_parse {len n m : Nat} {tx : Nat → Nat} {w0 : Wd} {K : Wd → Prop} (hG : Gd n m w0) (hX : tX len tx w0)
    (hT : (txR len tx n m 6 0 0 (fun _ => 0)).1 = true → ∀ w, Mo [32, 34] [] w0 w → w.1 32 3 = w0.1 32 3 → w.1 32 6 = -4 → w.1 32 4 = nI (txR len tx n m 6 0 0 (fun _ => 0)).2.2.1 → (∀ i, i < 6 → w.2 34 i = lN ((txR len tx n m 6 0 0 (fun _ => 0)).2.2.2 i)) → K w)
    (hF : (txR len tx n m 6 0 0 (fun _ => 0)).1 = false → ∀ w, Mo [32, 34] [] w0 w → w.1 32 3 = w0.1 32 3 → w.1 32 6 = nI (txR len tx n m 6 0 0 (fun _ => 0)).2.1 → K w) : RunV 1 M_T_parse [.ref 32] w0 K := by
  have ok := hG.1.1
  have h160 := hX.1
  have stopF : ∀ {q : Nat} {w : Wd}, q ≤ len → (txR len tx n m 6 0 0 (fun _ => 0)).1 = false → (txR len tx n m 6 0 0 (fun _ => 0)).2.1 = q → Mo [32, 34] [] w0 w → w.1 32 3 = w0.1 32 3 → w.1 32 6 = nI q → ∀ x1 : Int32, E 1 M_T_parse 26 [(0, .ref 32), (1, .int x1)] [] w (qV 1 K) := by
    intro q w hq h1 h2 hm h3 h6 x1
    have hn4 : ¬ (w.1 32 6) = -4 := by rw [h6]; exact nI_n4 (by omega)
    have hK := hF h1 w hm h3 (by rw [h2]; exact h6)
    exact w_T_parse_26 ⟨fun _ => ⟨fun _ => hK, fun c => absurd c hn4⟩, fun _ => ⟨fun _ => ⟨fun _ => hK, fun c => absurd c hn4⟩, fun c => absurd c hn4⟩⟩
  have key : ∀ f k q F w, k + f = 6 → q ≤ len → Mo [32, 34] [] w0 w → w.1 32 3 = w0.1 32 3 → w.1 32 4 = nI k → w.1 32 5 = nI q → w.1 32 6 = -4 → (∀ i, i < 6 → w.2 34 i = lN (F i)) → txR len tx n m f k q F = txR len tx n m 6 0 0 (fun _ => 0) → E 1 M_T_parse 26 [(0, .ref 32), (1, .int (nI k))] [] w (qV 1 K) := by
    intro f
    induction f with
    | zero =>
      intro k q F w hk hq hm h3 h4 h5 h6 hS ht
      rw [txR] at ht
      refine w_T_parse_26 (pk_le 6 k (fun _ => ?_) (fun c => by omega))
      rw [h6, h3, hX.2.1, h5]
      refine ⟨fun c => absurd rfl c, fun _ => pk_le len q (fun c => ?_) (fun c w1 e1 => ?_)⟩
      · refine hT (by rw [← ht]; exact decide_eq_true c) w hm h3 h6 (by rw [← ht]; exact h4) (fun i hi => by rw [← ht]; exact hS i hi)
      · refine hF (by rw [← ht]; exact decide_eq_false (by omega)) w1 (by rw [e1]; exact hm.upI _ (Or.inl (by decide))) (by rw [e1, upI_ne (by omega)]; exact h3) (by rw [← ht, e1, upI_eq])
    | succ f ih =>
      intro k q F w hk hq hm h3 h4 h5 h6 hS ht
      rw [txR] at ht
      have hGw : Gd n m w := hG.mo hm (by decide)
      have hXw : tX len tx w := ⟨hX.1, by rw [h3]; exact hX.2.1, fun i hi => by rw [(hm.pl 33 (by decide) (by decide)).1]; exact hX.2.2 i hi⟩
      have hbo := bkR_ok (tx := tx) ok 160 0 q hq (Nat.two_pow_pos _)
      refine w_T_parse_26 (pk_le 6 k (fun c => by omega) (fun _ => ?_))
      rw [h6, h3, hX.2.1, h5]
      refine ⟨fun c => absurd rfl c, fun _ => pk_le len q (fun c => ⟨fun c2 => absurd rfl c2, fun _ => pk_le len q (fun _ => ?_) (fun c2 => by omega)⟩) (fun c => ?_)⟩
      · rw [if_pos c] at ht
        exact hT (by rw [← ht]) w hm h3 h6 (by rw [← ht]; exact h4) (fun i hi => by rw [← ht]; exact hS i hi)
      · rw [if_neg (by omega)] at ht
        refine t_block hGw hXw h5 hq (show k < 6 by omega) h4 h6 (fun hb w2 hm2 k3 k4 k5 k6 k34 ko a5 e5 => ?_) (fun hb w2 hm2 k3 k6 a5 e5 => ?_)
        · rw [hb, if_pos rfl] at ht
          rw [i1, nI_add] at e5
          subst e5
          refine ih (k + 1) _ _ w2 (by omega) hbo.1 (hm.tr hm2) (k3.trans h3) k4 k5 k6 (fun i hi => ?_) ht
          by_cases e : i = k
          · rw [e, upF_eq]
            exact k34
          · rw [upF_ne e, ko i e]
            exact hS i hi
        · rw [hb, if_neg (by decide)] at ht
          exact stopF hbo.1 (by rw [← ht]) (by rw [← ht]) (hm.tr hm2) (k3.trans h3) k6 a5
  refine r_T_parse (t_fillL rfl (by decide) (by decide) (fun w1 hm1 h34 w2 e2 w3 e3 w4 e4 => ?_))
  have m1 : Mo [32, 34] [] w0 w1 := hm1.mo.mono (by decide) (fun _ c => absurd c List.not_mem_nil)
  refine key 6 0 0 (fun _ => 0) w4 (by omega) (Nat.zero_le _) ?_ ?_ ?_ ?_ (by rw [e4, upI_eq]) (fun i hi => ?_) rfl
  · rw [e4, e3, e2]
    exact ((m1.upI _ (Or.inl (by decide))).upI _ (Or.inl (by decide))).upI _ (Or.inl (by decide))
  · rw [e4, upI_ne (by omega), e3, upI_ne (by omega), e2, upI_ne (by omega), hm1.2]
  · rw [e4, upI_ne (by omega), e3, upI_ne (by omega), e2, upI_eq]
    rfl
  · rw [e4, upI_ne (by omega), e3, upI_eq]
    rfl
  · rw [e4, upI_2, e3, upI_2, e2, upI_2, h34 i hi]
    rfl
