/-- the candidates of a search -/
def isC (n m t x : Nat) : Bool := decide (nfS n m x = x ∧ nfS n m (imS (gM n m t) x (n * m)) = x)
def cdR (n m t e : Nat) : Nat → Nat → Dl → Dl
  | 0, _, L => L
  | f + 1, x, L => if x < e then cdR n m t e f (gos x) (if isC n m t x then dvp L x else L) else L
def Cq (n m k x : Nat) (L : Dl) : Prop := pop x = k ∧ 0 < x ∧ x < 2 ^ 26 ∧ (∀ i, i < L.1 → L.2 i < x ∧ L.2 i < 2 ^ (n * m) ∧ pop (L.2 i) = k ∧ nfS n m (L.2 i) = L.2 i) ∧ ∀ i j, i < j → j < L.1 → L.2 i < L.2 j
theorem p25 {v : Nat} (h : v ≤ 25) : 2 ^ v ≤ 2 ^ 25 := Nat.pow_le_pow_right (by decide) h
theorem dvp_in {L : Dl} {T i : Nat} (h : i < L.1) : (dvp L T).2 i = L.2 i := if_neg (by omega)
theorem dvp_at (L : Dl) (T : Nat) : (dvp L T).2 L.1 = T := if_pos rfl
theorem Cq.add {n m k x y : Nat} {L : Dl} (h : Cq n m k x L) (hy : pop y = k) (hy2 : y < 2 ^ 26) (hxy : x < y) (hx : x < 2 ^ (n * m)) (hn : nfS n m x = x) : Cq n m k y (dvp L x) := by
  obtain ⟨h1, h2, h3, h4, h5⟩ := h
  refine ⟨hy, by omega, hy2, fun i hi => ?_, fun i j hij hj => ?_⟩
  · have hi2 : i < L.1 + 1 := hi
    by_cases c : i = L.1
    · rw [c, dvp_at]
      exact ⟨hxy, hx, h1, hn⟩
    · rw [dvp_in (by omega)]
      have := h4 i (by omega)
      exact ⟨by omega, this.2⟩
  · have hj2 : j < L.1 + 1 := hj
    by_cases c : j = L.1
    · rw [c, dvp_at, dvp_in (by omega)]
      exact (h4 i (by omega)).1
    · rw [dvp_in (by omega), dvp_in (by omega)]
      exact h5 i j hij (by omega)
theorem Cq.skip {n m k x y : Nat} {L : Dl} (h : Cq n m k x L) (hy : pop y = k) (hy2 : y < 2 ^ 26) (hxy : x < y) : Cq n m k y L := by
  obtain ⟨h1, h2, h3, h4, h5⟩ := h
  refine ⟨hy, by omega, hy2, fun i hi => ?_, h5⟩
  have := h4 i hi
  exact ⟨by omega, this.2⟩
theorem Cq.le {n m k x : Nat} {L : Dl} (ok : GOK n m) (hv : n * m ≤ 25) (hk : 2 ≤ k) (hk5 : k ≤ 5) (h : Cq n m k x L) : L.1 ≤ 2130 :=
  cap ok hv hk hk5 (fun i hi => (h.2.2.2.1 i hi).2) (fun i j hij hj => Nat.ne_of_lt (h.2.2.2.2 i j hij hj))
theorem Cq.nx {n m k t x : Nat} {L : Dl} (hv : n * m ≤ 25) (h : Cq n m k x L) (hx : x < 2 ^ (n * m)) : Cq n m k (gos x) (if isC n m t x then dvp L x else L) := by
  have h25 := p25 hv
  have g1 := gos_pop h.2.1 (by omega)
  have g2 := gos_lt h.2.1 (by omega)
  have g3 := gos_gt h.2.1 (by omega)
  split
  · next hc => exact h.add (g1.trans h.1) g2 g3 hx (of_decide_eq_true hc).1
  · exact h.skip (g1.trans h.1) g2 g3
theorem cdR_inv {n m k t : Nat} (hv : n * m ≤ 25) : ∀ f x L, Cq n m k x L → ∃ y, Cq n m k y (cdR n m t (2 ^ (n * m)) f x L)
  | 0, x, L, h => ⟨x, h⟩
  | f + 1, x, L, h => by
    rw [cdR]
    by_cases c : x < 2 ^ (n * m)
    · rw [if_pos c]
      exact cdR_inv hv f _ _ (h.nx hv c)
    · rw [if_neg c]
      exact ⟨x, h⟩
theorem cdR_no {n m k t b : Nat} (ok : GOK n m) (hv : n * m ≤ 25) (hk : 2 ≤ k) (hb : b = m * (n - (n - 1) / k)) : ∀ f x L, pop x = k → 0 < x → x < 2 ^ 26 → 2 ^ b ≤ x → cdR n m t (2 ^ (n * m)) f x L = L
  | 0, x, L, _, _, _, _ => rfl
  | f + 1, x, L, h1, h2, h3, h4 => by
    rw [cdR]
    have h25 := p25 hv
    by_cases c : x < 2 ^ (n * m)
    · have hc : isC n m t x = false := decide_eq_false (fun q => by
        have := pb_lt ok c h1 (by omega) q.1
        rw [hb] at h4
        omega)
      rw [if_pos c, hc]
      have g3 := gos_gt h2 (show x < 2 ^ 64 by omega)
      exact cdR_no ok hv hk hb f (gos x) L ((gos_pop h2 (by omega)).trans h1) (by omega) (gos_lt h2 (by omega)) (by omega)
    · rw [if_neg c]
theorem cdR_eq {n m k t b : Nat} (ok : GOK n m) (hv : n * m ≤ 25) (hk : 2 ≤ k) (hb : b = m * (n - (n - 1) / k)) : ∀ f x L, pop x = k → 0 < x → x < 2 ^ 26 → cdR n m t (2 ^ b) f x L = cdR n m t (2 ^ (n * m)) f x L
  | 0, x, L, _, _, _ => rfl
  | f + 1, x, L, h1, h2, h3 => by
    have h25 := p25 hv
    have hbv : 2 ^ b ≤ 2 ^ (n * m) := by
      refine Nat.pow_le_pow_right (by decide) ?_
      rw [hb, Nat.mul_comm n m]
      exact Nat.mul_le_mul_left m (Nat.sub_le _ _)
    by_cases c : x < 2 ^ b
    · have g3 := gos_gt h2 (show x < 2 ^ 64 by omega)
      rw [cdR, cdR, if_pos c, if_pos (show x < 2 ^ (n * m) by omega)]
      exact cdR_eq ok hv hk hb f (gos x) _ ((gos_pop h2 (by omega)).trans h1) (by omega) (gos_lt h2 (by omega))
    · rw [cdR_no ok hv hk hb (f + 1) x L h1 h2 h3 (by omega), cdR, if_neg c]
def cnd (n m k t : Nat) : Dl := cdR n m t (2 ^ (n * m)) 53130 (2 ^ k - 1) (0, fun _ => 0)
theorem k31 {k : Nat} (hk : 2 ≤ k) (hk5 : k ≤ 5) : 0 < 2 ^ k - 1 ∧ 2 ^ k - 1 < 32 ∧ pop (2 ^ k - 1) = k := by
  refine ⟨?_, ?_, pop_ones (by omega)⟩
  · have := Nat.pow_le_pow_right (show 0 < 2 by decide) hk
    omega
  · have := Nat.pow_le_pow_right (show 0 < 2 by decide) hk5
    omega
theorem Cq.ini {n m k : Nat} (hk : 2 ≤ k) (hk5 : k ≤ 5) : Cq n m k (2 ^ k - 1) (0, fun _ => 0) := by
  have h := k31 hk hk5
  exact ⟨h.2.2, h.1, by omega, fun i hi => absurd hi (Nat.not_lt_zero i), fun i j _ hj => absurd hj (Nat.not_lt_zero j)⟩
theorem cnd_ok {n m k t : Nat} (ok : GOK n m) (hv : n * m ≤ 25) (hk : 2 ≤ k) (hk5 : k ≤ 5) : (cnd n m k t).1 ≤ 2130 ∧ ∀ i, i < (cnd n m k t).1 → (cnd n m k t).2 i < 2 ^ (n * m) ∧ pop ((cnd n m k t).2 i) = k := by
  obtain ⟨y, h⟩ := cdR_inv (t := t) hv 53130 _ _ (Cq.ini (n := n) (m := m) hk hk5)
  exact ⟨h.le ok hv hk hk5, fun i hi => ⟨(h.2.2.2.1 i hi).2.1, (h.2.2.2.1 i hi).2.2.1⟩⟩
theorem cnd_0 {n m k t : Nat} (hk : n * m < k) : cnd n m k t = (0, fun _ => 0) := by
  unfold cnd
  rw [cdR, if_neg]
  have h1 := Nat.pow_le_pow_right (show 0 < 2 by decide) (show n * m + 1 ≤ k by omega)
  have h2 := Nat.two_pow_pos (n * m)
  rw [Nat.pow_succ] at h1
  omega
/-- the candidates that stand in a row -/
def cW (p : Nat) (L : Dl) (w : Wd) : Prop := ∀ i, i < L.1 → w.2 p i = lN (L.2 i)
theorem cW.add {p x : Nat} {L : Dl} {w : Wd} (h : cW p L w) : cW p (dvp L x) (upL w p L.1 (lN x)) := fun i hi => by
  have hi2 : i < L.1 + 1 := hi
  by_cases c : i = L.1
  · rw [c, upL_eq, dvp_at]
  · rw [upL_ne (by omega), dvp_in (by omega)]
    exact h i (by omega)
theorem t_isC {n m t x : Nat} {w : Wd} {K : Bool → Wd → Prop} (hG : Gd n m w) (hx : x < 2 ^ (n * m)) (h26 : ∀ y, y < n * m → w.1 26 y = nI (gM n m t y)) (h : K (isC n m t x) w) : RunZ 1 M_N_isCandidate [.ref 24, .long (lN x)] w K := by
  have ok := hG.1.1
  have hv40 := ok.2.2
  have h40 := pow40 hv40
  have him : imS (gM n m t) x (n * m) < 2 ^ (n * m) := imS_lt (fun y _ => gM_lt ok t y)
  have hnf := nfS_lt him
  refine r_N_isCandidate (t_isLeast hG hx ?_)
  by_cases c : nfS n m x = x
  · rw [decide_eq_true c]
    refine zt (t_mapped (φ := gM n m t) rfl (by decide) hG.1 (by omega) (fun y hy => ⟨h26 y hy, Nat.lt_of_lt_of_le (gM_lt ok t y) (by omega)⟩) (t_least hG him ?_))
    rw [fb_lN_inj (by omega) (by omega)]
    by_cases c2 : nfS n m (imS (gM n m t) x (n * m)) = x
    · rw [show isC n m t x = true from decide_eq_true ⟨c, c2⟩] at h
      exact ⟨fun c3 => absurd c2 c3, fun _ => h⟩
    · rw [show isC n m t x = false from decide_eq_false (fun q => c2 q.2)] at h
      exact ⟨fun _ => h, fun c3 => absurd c3 c2⟩
  · rw [decide_eq_false c]
    rw [show isC n m t x = false from decide_eq_false (fun q => c q.1)] at h
    exact zf h
theorem t_cand {n m k t : Nat} {w0 : Wd} {K : Wd → Prop} (hG : Gd n m w0) (hv : n * m ≤ 25) (hk : 2 ≤ k) (hk5 : k ≤ 5) (ht : t < 1000) (h : ∀ w, Mo [24, 25, 26] [] w0 w → w.1 24 8 = nI (cnd n m k t).1 → (∀ j, j ≠ 8 → w.1 24 j = w0.1 24 j) → cW 25 (cnd n m k t) w → K w) : RunV 1 M_N_listCandidates [.ref 24, .int (nI k), .int (nI t)] w0 K := by
  have ok := hG.1.1
  have hn2 := ok.1
  have hm0 := ok.m0
  have hnv := ok.nv
  have hmv := ok.mv
  have h25 := p25 hv
  have hk31 := k31 hk hk5
  refine r_N_listCandidates (fun w1 e1 => ?_)
  have m1 : Mo [24, 25, 26] [] w0 w1 := by rw [e1]; exact (Mo.rf _ _ _).upI _ (Or.inl (by decide))
  have hG1 : Gd n m w1 := hG.mo m1 (by decide)
  have h241 : ∀ j, j ≠ 8 → w1.1 24 j = w0.1 24 j := fun j hj => by rw [e1, upI_ne (by omega)]
  refine t_fillMul (t := t) rfl (by decide) hG1.1 (by decide) (by omega) (fun w2 hm2 h26 => ?_)
  have m2 : Mo [24, 25, 26] [] w0 w2 := m1.tr (hm2.mo.mono (by decide) (fun _ c => absurd c List.not_mem_nil))
  have hG2 : Gd n m w2 := hG.mo m2 (by decide)
  have h242 : w2.1 24 = w1.1 24 := hm2.1 24 (by decide)
  have hb : n - (n - 1) / k ≤ n := Nat.sub_le _ _
  have hbv : m * (n - (n - 1) / k) ≤ n * m := by
    rw [Nat.mul_comm n m]
    exact Nat.mul_le_mul_left m hb
  have hq : (n - 1) / k ≤ n - 1 := Nat.div_le_self _ _
  refine r_N_possibleBits (pk_le k 0 (fun c => by omega) (fun _ => ⟨fun c => ?_, fun a1 ea b5 e5 b6 e6 => ?_⟩))
  · have := nI_z (by omega) c
    omega
  rw [hG2.1.2.1, i1, pk_sub (by omega), pk_div (by omega) (by omega) (by omega)] at ea
  subst ea
  rw [hG2.1.2.1, hG2.1.2.2.1, pk_sub (by omega), pk_mul, l_pow (by omega)] at e5
  rw [l_pow (by omega), show (1 : Int64) = lN 1 from rfl, lN_sub (Nat.two_pow_pos k)] at e6
  subst e5
  subst e6
  generalize hbe : m * (n - (n - 1) / k) = b at hbv ⊢
  have h2b : 2 ^ b ≤ 2 ^ (n * m) := Nat.pow_le_pow_right (by decide) hbv
  have key : ∀ f tr x L w, tr + f = 53130 → Cq n m k x L → Mo [24, 25, 26] [] w0 w → (∀ y, y < n * m → w.1 26 y = nI (gM n m t y)) → w.1 24 8 = nI L.1 → (∀ j, j ≠ 8 → w.1 24 j = w0.1 24 j) → cW 25 L w → (∀ w', Mo [24, 25, 26] [] w0 w' → w'.1 24 8 = nI (cdR n m t (2 ^ b) f x L).1 → (∀ j, j ≠ 8 → w'.1 24 j = w0.1 24 j) → cW 25 (cdR n m t (2 ^ b) f x L) w' → K w') → E 1 M_N_listCandidates 35 [(0, .ref 24), (3, .long (lN (2 ^ b))), (5, .long (lN x)), (7, .int (nI tr))] [] w (qV 1 K) := by
    intro f
    induction f with
    | zero =>
      intro tr x L w htr hI hm h26 h8 ho hL hK
      refine w_N_listCandidates_35 (pk_le 53130 tr (fun _ => hK w hm h8 ho hL) (fun c => by omega))
    | succ f ih =>
      intro tr x L w htr hI hm h26 h8 ho hL hK
      have hGw : Gd n m w := hG.mo hm (by decide)
      have hx26 := hI.2.2.1
      refine w_N_listCandidates_35 (pk_le 53130 tr (fun c => by omega) (fun _ => ?_))
      rw [lN_lE (by omega) (by omega)]
      refine ⟨fun c => ?_, fun c => ?_⟩
      · rw [cdR, if_neg (by omega)] at hK
        exact hK w hm h8 ho hL
      · rw [cdR, if_pos (by omega)] at hK
        have hxv : x < 2 ^ (n * m) := by omega
        have hnx := hI.nx (t := t) hv hxv
        refine t_isC hGw hxv h26 ?_
        cases hc : isC n m t x with
        | false =>
          refine zf (t_gos hI.2.1 (by omega) (fun a5 e5 => ?_))
          rw [i1, nI_add] at e5
          subst e5
          rw [hc] at hK hnx
          exact ih (tr + 1) (gos x) L w (by omega) hnx hm h26 h8 ho hL hK
        | true =>
          rw [hc, if_pos rfl] at hK hnx
          have hle : L.1 + 1 ≤ 2130 := hnx.le ok hv hk hk5
          refine zt ?_
          rw [h8]
          refine pk_le 2130 L.1 (fun c => by omega) (fun _ => ⟨vp_in_nI (by omega) (by decide), fun w9 e9 w10 e10 => t_gos hI.2.1 (by omega) (fun a13 e13 => ?_)⟩)
          rw [i1, nI_add] at e13
          subst e13
          rw [nI_clamp (by omega)] at e9
          have q9 : w9.1 24 8 = nI L.1 := by rw [e9, upL_1]; exact h8
          rw [q9, i1, nI_add] at e10
          refine ih (tr + 1) (gos x) (dvp L x) w10 (by omega) hnx (by rw [e10, e9]; exact (hm.upL _ (Or.inl (by decide))).upI _ (Or.inl (by decide))) (fun y hy => by rw [e10, upI_ne (by omega), e9, upL_1]; exact h26 y hy) (by rw [e10, upI_eq]; rfl) (fun j hj => by rw [e10, upI_ne (by omega), e9, upL_1]; exact ho j hj) ?_ hK
          rw [e10, e9]
          exact hL.add
  refine key 53130 0 (2 ^ k - 1) (0, fun _ => 0) w2 (by omega) (Cq.ini hk hk5) m2 h26 (by rw [h242, e1, upI_eq]; rfl) (fun j hj => by rw [h242]; exact h241 j hj) (fun i hi => absurd hi (Nat.not_lt_zero i)) ?_
  rw [cdR_eq ok hv hk hbe.symm 53130 (2 ^ k - 1) (0, fun _ => 0) hk31.2.2 hk31.1 (by omega)]
  exact h
theorem u_cand {n m k t : Nat} {w0 : Wd} {K : Wd → Prop} (hB : Bg n m w0) (hv : n * m ≤ 25) (hk : 2 ≤ k) (hk5 : k ≤ 5) (ht : t < 1000) (h : ∀ w, Mo [54] [15] w0 w → w.1 39 15 = nI (cnd n m k t).1 → cW 54 (cnd n m k t) w → K w) : RunV 1 M_B_findCandidates [.ref 39, .int (nI k), .int (nI t)] w0 K := by
  have ok := hB.1
  have h25 := p25 hv
  have hk31 := k31 hk hk5
  have bgm : ∀ {w : Wd}, Mo [54] [15] w0 w → Bg n m w := fun hm => ⟨hB.1, by rw [(hm.sl 0 (by decide) (by decide)).1]; exact hB.2.1, by rw [(hm.sl 1 (by decide) (by decide)).1]; exact hB.2.2.1, by rw [(hm.sl 2 (by decide) (by decide)).1]; exact hB.2.2.2⟩
  refine r_B_findCandidates (fun w1 e1 b2 e2 b3 e3 => ?_)
  have m1 : Mo [54] [15] w0 w1 := by rw [e1]; exact (Mo.rf _ _ _).upI _ (Or.inr (by decide))
  rw [(bgm m1).2.2.2, l_pow (by omega)] at e2
  rw [l_pow (by omega), show (1 : Int64) = lN 1 from rfl, lN_sub (Nat.two_pow_pos k)] at e3
  subst e2
  subst e3
  have key : ∀ f tr x L w, tr + f = 53130 → tr ≤ rk k x → Cq n m k x L → Mo [54] [15] w0 w → w.1 39 15 = nI L.1 → cW 54 L w → (∀ w', Mo [54] [15] w0 w' → w'.1 39 15 = nI (cdR n m t (2 ^ (n * m)) f x L).1 → cW 54 (cdR n m t (2 ^ (n * m)) f x L) w' → K w') → E 1 M_B_findCandidates 19 [(0, .ref 39), (2, .int (nI t)), (3, .long (lN (2 ^ (n * m)))), (5, .long (lN x))] [] w (qV 1 K) := by
    intro f
    induction f with
    | zero =>
      intro tr x L w htr hr hI hm h15 hL hK
      have hx26 := hI.2.2.1
      refine w_B_findCandidates_19 ?_
      rw [lN_lE (by omega) (by omega)]
      refine ⟨fun _ => hK w hm h15 hL, fun c => ?_⟩
      have h1 := rk_lt (k := k) (x := x) (v := n * m) (by omega) (by omega) hI.1
      have h2 := bn53 (n * m) (by omega) k (by omega)
      omega
    | succ f ih =>
      intro tr x L w htr hr hI hm h15 hL hK
      have hx26 := hI.2.2.1
      refine w_B_findCandidates_19 ?_
      rw [lN_lE (by omega) (by omega)]
      refine ⟨fun c => ?_, fun c => ?_⟩
      · rw [cdR, if_neg (by omega)] at hK
        exact hK w hm h15 hL
      · rw [cdR, if_pos (by omega)] at hK
        have hxv : x < 2 ^ (n * m) := by omega
        have hBw := bgm hm
        have hnx := hI.nx (t := t) hv hxv
        have hnf := nfS_lt hxv
        have hr2 := rk_up hI.1 (gos_gt hI.2.1 (by omega))
        have hu := u_gos hI.2.1 (by omega)
        refine u_normal hBw hxv ?_
        rw [fb_lN_inj (by omega) (by omega)]
        refine ⟨fun c1 b3 e3 b4 e4 => ⟨(hu b3 e3 b4 e4).1, fun b5 e5 => ?_⟩, fun c1 => ?_⟩
        · rw [(hu b3 e3 b4 e4).2 b5 e5]
          rw [show isC n m t x = false from decide_eq_false (fun q => c1 q.1)] at hK hnx
          exact ih (tr + 1) (gos x) L w (by omega) (by omega) hnx hm h15 hL hK
        · have him : imS (gM n m t) x (n * m) < 2 ^ (n * m) := imS_lt (fun y _ => gM_lt ok t y)
          have hnf2 := nfS_lt him
          refine u_timesOf hBw (by omega) (by omega) (u_normal hBw him ?_)
          rw [fb_lN_inj (by omega) (by omega)]
          refine ⟨fun c2 b3 e3 b4 e4 => ⟨(hu b3 e3 b4 e4).1, fun b5 e5 => ?_⟩, fun c2 => ?_⟩
          · rw [(hu b3 e3 b4 e4).2 b5 e5]
            rw [show isC n m t x = false from decide_eq_false (fun q => c2 q.2)] at hK hnx
            exact ih (tr + 1) (gos x) L w (by omega) (by omega) hnx hm h15 hL hK
          · rw [show isC n m t x = true from decide_eq_true ⟨c1, c2⟩, if_pos rfl] at hK hnx
            have hle : L.1 + 1 ≤ 2130 := hnx.le ok hv hk hk5
            rw [h15]
            refine ⟨vp_in_nI (by omega) (by decide), fun w13 e13 w14 e14 b3 e3 b4 e4 => ⟨(hu b3 e3 b4 e4).1, fun b5 e5 => ?_⟩⟩
            rw [(hu b3 e3 b4 e4).2 b5 e5]
            rw [nI_clamp (by omega)] at e13
            have q13 : w13.1 39 15 = nI L.1 := by rw [e13, upL_1]; exact h15
            rw [q13, i1, nI_add] at e14
            refine ih (tr + 1) (gos x) (dvp L x) w14 (by omega) (by omega) hnx (by rw [e14, e13]; exact (hm.upL _ (Or.inl (by decide))).upI _ (Or.inr (by decide))) (by rw [e14, upI_eq]; rfl) ?_ hK
            rw [e14, e13]
            exact hL.add
  exact key 53130 0 (2 ^ k - 1) (0, fun _ => 0) w1 (by omega) (Nat.zero_le _) (Cq.ini hk hk5) m1 (by rw [e1, upI_eq]; rfl) (fun i hi => absurd hi (Nat.not_lt_zero i)) h
