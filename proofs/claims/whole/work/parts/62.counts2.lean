theorem Bg.on {n m p : Nat} {w w1 : Wd} (h : Bg n m w) (hm : OnI p w w1) (hp : p ≠ 39) : Bg n m w1 := by
  have e := hm.1 39 (fun c => hp c.symm)
  exact ⟨h.1, by rw [e]; exact h.2.1, by rw [e]; exact h.2.2.1, by rw [e]; exact h.2.2.2⟩
theorem u_cnt_a {n m p0 n0 c0 k S : Nat} {c : Nat → Nat} {w0 : Wd} {K : Wd → Prop} (hk0 : kd p0 = .inl (1, n0)) (hp0 : p0 < Nf 1) (hB : Bg n m w0) (hk : k < n0) (hn0 : n0 < 2 ^ 30) (hS : S < 2 ^ (n * m)) (hw : w0.2 p0 k = lN S)
    (h : ∀ w, OnI 48 w0 w → (∀ d, d < 40 → w.1 48 d = nI (c d + dc n m S d (n * m))) → E 1 M_B_counts 23 [(0, .ref 39), (1, .ref p0), (2, .int (nI c0)), (3, .int (nI (k + 1)))] [] w (qV 1 K)) :
    ∀ j a w, a + j = n * m → OnI 48 w0 w → (∀ d, d < 40 → w.1 48 d = nI (c d + dc n m S d a)) → E 1 M_B_counts 31 [(0, .ref 39), (1, .ref p0), (2, .int (nI c0)), (3, .int (nI k)), (4, .int (nI a))] [] w (qV 1 K) := by
  have ok := hB.1
  have hv := ok.2.2
  have h40 := pow40 hv
  intro j
  induction j with
  | zero =>
    intro a w ha hm hd
    refine w_B_counts_31 hk0 hp0 ?_
    rw [hm.1 39 (by decide), hB.2.2.2]
    refine pk_le (n * m) a (fun _ a1 e1 => ?_) (fun c => by omega)
    rw [i1, nI_add] at e1
    subst e1
    rw [show a = n * m by omega] at hd
    exact h w hm hd
  | succ j ih =>
    intro a w ha hm hd
    have hav : a < n * m := by omega
    refine w_B_counts_31 hk0 hp0 ?_
    rw [hm.1 39 (by decide), hB.2.2.2]
    refine pk_le (n * m) a (fun c => by omega) (fun _ => ?_)
    cases hSa : S.testBit a with
    | false =>
      refine w_B_counts_43 hk0 hp0 ?_
      rw [hm.1 39 (by decide), hB.2.2.2, hm.2, nI_clamp (by omega), hw]
      refine pk_le (n * m) 0 (fun c => by omega) (fun _ => ⟨vp_in_nI hk (by omega), u_has (by omega) (by omega) ?_⟩)
      rw [hSa]
      refine zf (fun a4 e4 => ?_)
      rw [i1, nI_add] at e4
      subst e4
      refine ih (a + 1) w (by omega) hm (fun d hd2 => ?_)
      rw [hd d hd2, dc_s, if_neg (fun c => by have := c.2.2.1; rw [hSa] at this; cases this), Nat.add_zero]
    | true =>
      refine u_cnt_b (c := fun d => c d + dc n m S d a) hk0 hp0 (hB.on hm (by decide)) hk hn0 hS (by rw [hm.2]; exact hw) hav hSa (fun w2 hm2 hd2 => ih (a + 1) w2 (by omega) (hm.tr hm2) (fun d hd3 => ?_)) (n * m) 0 w (by omega) (OnI.rf _ _) (fun d hd2 => ?_)
      · rw [hd2 d hd3, dc_s, Nat.add_assoc]
      · rw [hd d hd2, if_neg (fun c => Nat.not_lt_zero _ c.2.2.1), Nat.add_zero]
theorem u_cnt_k {n m p0 n0 c0 : Nat} {f : Nat → Nat} {w0 : Wd} {K : Wd → Prop} (hk0 : kd p0 = .inl (1, n0)) (hp0 : p0 < Nf 1) (hB : Bg n m w0) (hc : c0 ≤ n0) (hn0 : n0 < 2 ^ 30) (hf : ∀ k, k < c0 → w0.2 p0 k = lN (f k) ∧ f k < 2 ^ (n * m)) (h : ∀ w, OnI 48 w0 w → (∀ d, d < 40 → w.1 48 d = nI (ctF n m f c0 d)) → K w) :
    ∀ j k w, k + j = c0 → OnI 48 w0 w → (∀ d, d < 40 → w.1 48 d = nI (ctF n m f k d)) → E 1 M_B_counts 23 [(0, .ref 39), (1, .ref p0), (2, .int (nI c0)), (3, .int (nI k))] [] w (qV 1 K) := by
  intro j
  induction j with
  | zero =>
    intro k w hk hm hd
    refine w_B_counts_23 hk0 hp0 (pk_le c0 k (fun _ => ?_) (fun c => by omega))
    rw [show k = c0 by omega] at hd
    exact h w hm hd
  | succ j ih =>
    intro k w hk hm hd
    refine w_B_counts_23 hk0 hp0 (pk_le c0 k (fun c => by omega) (fun _ => ?_))
    have hfk := hf k (by omega)
    refine u_cnt_a (c := ctF n m f k) (S := f k) hk0 hp0 (hB.on hm (by decide)) (by omega) hn0 hfk.2 (by rw [hm.2]; exact hfk.1) (fun w2 hm2 hd2 => ih (k + 1) w2 (by omega) (hm.tr hm2) hd2) (n * m) 0 w (by omega) (OnI.rf _ _) (fun d hd2 => ?_)
    rw [hd d hd2]
    have := dc_le n m (f k) d 0
    rw [show dc n m (f k) d 0 = 0 by omega, Nat.add_zero]
theorem u_counts {n m p0 n0 c0 : Nat} {f : Nat → Nat} {w0 : Wd} {K : Wd → Prop} (hk0 : kd p0 = .inl (1, n0)) (hp0 : p0 < Nf 1) (hB : Bg n m w0) (hc : c0 ≤ n0) (hn0 : n0 < 2 ^ 30) (hf : ∀ k, k < c0 → w0.2 p0 k = lN (f k) ∧ f k < 2 ^ (n * m)) (h : ∀ w, OnI 48 w0 w → (∀ d, d < 40 → w.1 48 d = nI (ctF n m f c0 d)) → K w) : RunV 1 M_B_counts [.ref 39, .ref p0, .int (nI c0)] w0 K := by
  have key : ∀ j k w, k + j = 40 → OnI 48 w0 w → (∀ d, d < k → w.1 48 d = nI 0) → E 1 M_B_counts 2 [(0, .ref 39), (1, .ref p0), (2, .int (nI c0)), (3, .int (nI k))] [] w (qV 1 K) := by
    intro j
    induction j with
    | zero =>
      intro k w hk hm hd
      refine w_B_counts_2 hk0 hp0 (pk_le 40 k (fun _ => ?_) (fun c => by omega))
      exact u_cnt_k hk0 hp0 (hB.on hm (by decide)) hc hn0 (fun k hk => by rw [hm.2]; exact hf k hk) (fun w2 hm2 hd2 => h w2 (hm.tr hm2) hd2) c0 0 w (by omega) (OnI.rf _ _) (fun d hd2 => hd d (by omega))
    | succ j ih =>
      intro k w hk hm hd
      refine w_B_counts_2 hk0 hp0 (pk_le 40 k (fun c => by omega) (fun _ => ⟨vp_in_nI (by omega) (by decide), fun w1 e1 a2 e2 => ?_⟩))
      rw [nI_clamp (by omega)] at e1
      rw [i1, nI_add] at e2
      subst e2
      refine ih (k + 1) w1 (by omega) (by rw [e1]; exact hm.up _ _) (fun d hd2 => ?_)
      by_cases e : d = k
      · rw [e1, e, upI_eq]; rfl
      · rw [e1, upI_ne (by omega)]
        exact hd d (by omega)
  exact r_B_counts hk0 hp0 (key 40 0 w0 (by decide) (OnI.rf _ _) (fun d hd => absurd hd (Nat.not_lt_zero d)))
/-- the object's counts -/
theorem t_fillI {f p0 n0 : Nat} {x : Int32} {w0 : Wd} {K : Wd → Prop} (hk0 : kd p0 = .inl (0, n0)) (hp0 : p0 < Nf f) (hn : n0 < 2 ^ 30) (h : ∀ w, OnI p0 w0 w → (∀ d, d < n0 → w.1 p0 d = x) → K w) : RunV f M_J_fillI [.ref p0, .int x] w0 K := by
  have key : ∀ j k w, k + j = n0 → OnI p0 w0 w → (∀ d, d < k → w.1 p0 d = x) → E f M_J_fillI 5 [(0, .ref p0), (1, .int x), (2, .int (nI k)), (3, .int (nI n0))] [] w (qV f K) := by
    intro j
    induction j with
    | zero =>
      intro k w hk hm hd
      refine w_J_fillI_5 hk0 hp0 (pk_le n0 k (fun _ => h w hm (fun d hd2 => hd d (by omega))) (fun c => by omega))
    | succ j ih =>
      intro k w hk hm hd
      refine w_J_fillI_5 hk0 hp0 (pk_le n0 k (fun c => by omega) (fun _ => ⟨vp_in_nI (by omega) (by omega), fun w1 e1 a2 e2 => ?_⟩))
      rw [nI_clamp (by omega)] at e1
      rw [i1, nI_add] at e2
      subst e2
      refine ih (k + 1) w1 (by omega) (by rw [e1]; exact hm.up _ _) (fun d hd2 => ?_)
      by_cases e : d = k
      · rw [e1, e, upI_eq]
      · rw [e1, upI_ne (by omega)]
        exact hd d (by omega)
  refine r_J_fillI hk0 hp0 (fun a1 e1 => ?_)
  subst e1
  exact key n0 0 w0 (by omega) (OnI.rf _ _) (fun d hd => absurd hd (Nat.not_lt_zero d))
theorem trS_S {n m S g a : Nat} (ok : GOK n m) (ha : a < n * m) (hg : g < n * m) (hS : S < 2 ^ (n * m)) : (trS n m S g).testBit a = S.testBit (gS n m a g) := by
  rw [Bool.eq_iff_iff, trS_bit]
  constructor
  · rintro ⟨x, hx, hSx, e⟩
    rw [(gS_iff ok ha hg hx).mpr e]
    exact hSx
  · intro h
    exact ⟨gS n m a g, gS_lt ok a g, h, gA_S ok ha hg⟩
theorem pop_v {S v : Nat} (hS : S < 2 ^ v) (hv : v ≤ 40) : pop S = fb_ct (fun i => S.testBit i) v := by
  unfold pop
  rw [show (64 : Nat) = v + (64 - v) by omega, fb_ct_split, show fb_ct (fun k => S.testBit (v + k)) (64 - v) = 0 from fb_ct_zero.mpr (fun k _ => by
    cases h : S.testBit (v + k) with
    | false => rfl
    | true => have := bit_lt hS h; omega), Nat.add_zero]
theorem pop_dc {n m S d : Nat} (ok : GOK n m) (hS : S < 2 ^ (n * m)) (h0 : 1 ≤ d) (hd : d < n * m) : pop (S &&& trS n m S d) = dc n m S d (n * m) := by
  rw [pop_v (Nat.lt_of_le_of_lt Nat.and_le_left hS) ok.2.2]
  unfold dc
  rw [if_pos ⟨by omega, hd⟩]
  refine fb_ct_cong (fun a ha => ?_)
  rw [Nat.testBit_and, trS_S ok ha hd hS]
  rfl
theorem t_addC {n m S : Nat} {x3 : Int32} {w0 : Wd} {K : Wd → Prop} (hG : Gd n m w0) (hS : S < 2 ^ (n * m)) (h : ∀ w, OnI 9 w0 w → (∀ d, d < 40 → w.1 9 d = w0.1 9 d + x3 * nI (dc n m S d (n * m))) → K w) : RunV 1 M_F_addCounts [.ref 8, .long (lN S), .int x3] w0 K := by
  have ok := hG.1.1
  have hv := ok.2.2
  have h40 := pow40 hv
  have hv2 := ok.mv
  have hm0 := ok.m0
  have key : ∀ j d w, d + 1 + j = n * m → OnI 9 w0 w → (∀ e, e < 40 → w.1 9 e = w0.1 9 e + (if e ≤ d then x3 * nI (dc n m S e (n * m)) else 0)) → E 1 M_F_addCounts 6 [(0, .ref 8), (1, .long (lN S)), (3, .int x3), (4, .long (lN (trS n m S d))), (6, .int (nI (d + 1)))] [] w (qV 1 K) := by
    intro j
    induction j with
    | zero =>
      intro d w hd hm he
      refine w_F_addCounts_6 ?_
      rw [hm.1 1 (by decide), hG.1.2.2.2.1]
      refine pk_le (n * m) (d + 1) (fun _ => h w hm (fun e he2 => ?_)) (fun c => by omega)
      rw [he e he2]
      by_cases hed : e ≤ d
      · rw [if_pos hed]
      · rw [if_neg hed, show dc n m S e (n * m) = 0 from if_neg (fun c => by omega), show nI 0 = (0 : Int32) from rfl, Int32.mul_zero]
    | succ j ih =>
      intro d w hd hm he
      have hlt : S &&& trS n m S (d + 1) < 2 ^ (n * m) := Nat.lt_of_le_of_lt Nat.and_le_left hS
      refine w_F_addCounts_6 ?_
      rw [hm.1 1 (by decide), hG.1.2.2.2.1, i1, pk_sub (by omega), Nat.add_sub_cancel]
      refine pk_le (n * m) (d + 1) (fun c => by omega) (fun _ => t_onward (hG.mo hm.mo (by decide)) (by omega) ?_)
      rw [Nat.mod_eq_of_lt (by omega), fb_andL]
      refine ⟨vp_in_nI (by omega) (by decide), t_bitCount (by omega) ⟨vp_in_nI (by omega) (by decide), fun w5 e5 a6 e6 => ?_⟩⟩
      rw [nI_clamp (by omega), pop_dc ok hS (by omega) (by omega)] at e5
      rw [nI_add] at e6
      subst e6
      refine ih (d + 1) w5 (by omega) (by rw [e5]; exact hm.up _ _) (fun e he2 => ?_)
      by_cases hed : e = d + 1
      · subst hed
        rw [e5, upI_eq, he _ he2, if_neg (by omega), if_pos (Nat.le_refl _), Int32.add_zero]
      · rw [e5, upI_ne (by omega), he e he2]
        congr 1
        by_cases h2 : e ≤ d
        · rw [if_pos h2, if_pos (by omega)]
        · rw [if_neg h2, if_neg (by omega)]
  have h0 := key (n * m - 1) 0 w0 (by omega) (OnI.rf _ _) (fun e he => by
    by_cases h2 : e ≤ 0
    · rw [if_pos h2, show e = 0 by omega, show dc n m S 0 (n * m) = 0 from if_neg (fun c => c.1 rfl), show nI 0 = (0 : Int32) from rfl, Int32.mul_zero, Int32.add_zero]
    · rw [if_neg h2, Int32.add_zero])
  rw [trS_0 ok hS] at h0
  exact r_F_addCounts h0
theorem t_tally {s : Sg} {w0 : Wd} {K : Wd → Prop} (hs : WF s) (hG : Gd (sN s) (sM s) w0) (hB : cB s w0) (h : ∀ w, OnI 9 w0 w → (∀ d, d < 40 → w.1 9 d = nI (ctF (sN s) (sM s) (sBl s) 6 d)) → K w) : RunV 1 M_F_tally [.ref 8, .ref 10] w0 K := by
  have key : ∀ j k w, k + j = 6 → OnI 9 w0 w → (∀ d, d < 40 → w.1 9 d = nI (ctF (sN s) (sM s) (sBl s) k d)) → E 1 M_F_tally 10 [(0, .ref 8), (1, .ref 10), (2, .int (nI k))] [] w (qV 1 K) := by
    intro j
    induction j with
    | zero =>
      intro k w hk hm hd
      refine w_F_tally_10 (pk_le 6 k (fun _ => ?_) (fun c => by omega))
      rw [show k = 6 by omega] at hd
      exact h w hm hd
    | succ j ih =>
      intro k w hk hm hd
      refine w_F_tally_10 (pk_le 6 k (fun c => by omega) (fun _ => ⟨vp_in_nI (by omega) (by decide), ?_⟩))
      rw [nI_clamp (by omega), hm.2, hB k (by omega)]
      refine t_addC (hG.mo hm.mo (by decide)) (hs.bl (by omega)) (fun w2 hm2 hd2 a2 e2 => ?_)
      rw [i1, nI_add] at e2
      subst e2
      refine ih (k + 1) w2 (by omega) (hm.tr hm2) (fun d hd3 => ?_)
      rw [hd2 d hd3, hd d hd3, i1, pk_mul, Nat.one_mul, nI_add]
      rfl
  refine r_F_tally (t_fillI rfl (by decide) (by decide) (fun w1 hm1 hd1 => ?_))
  exact key 6 0 w1 (by decide) hm1 (fun d hd => hd1 d hd)
