/-- the sum -/
def fdm (f : Nat → Int64) : Nat → Int64 → Nat → Int64
  | 0, h, _ => h
  | j + 1, h, a => fdm f j (31 * h + f a) (a + 1)
def ck0 (s : Sg) : Int64 := 31 * (31 * (31 * 23 + (nI (sN s * sM s)).toInt64) + (nI (nAut (sN s) (sM s))).toInt64) + lN (sHo s)
def ck1 (s : Sg) : Int64 := fdm (fun k => lN (sBl s k)) 6 (ck0 s) 0
def ck2 (s : Sg) : Int64 := fdm (fun d => (nI (cn s d)).toInt64) (sN s * sM s - 1) (ck1 s) 1
def ck4 (s : Sg) : Int64 := 31 * (31 * ck2 s + lN (mlF s (sN s * sM s))) + (nI (syN s (nAut (sN s) (sM s)))).toInt64
def ck5 (s : Sg) : Int64 := fdm (fun i => lN (cnA s i)) (usN s 6) (ck4 s) 0
noncomputable def ck7 (s : Sg) : Int64 := 31 * (31 * ck5 s + (nI (dv s 6).1).toInt64) + (nI (rkS s 2)).toInt64
theorem t_check {s : Sg} {w0 : Wd} {K : Int64 → Wd → Prop} (hs : WF s) (hC : CW s w0) (h : ∀ w, CW s w → Mo allA [] w0 w → K (ck7 s) w) : RunL 1 M_A_checksum [.ref 0] w0 K := by
  have ok := hs.1
  have hv := ok.2.2
  have hv2 : 2 ≤ sN s * sM s := Nat.le_trans ok.1 ok.nv
  have hu6 := usN_6 s
  have n480 := nAut_480 ok
  have m0 : ∀ {C : List Nat} {w w1 : Wd}, (∀ p ∈ C, p ∈ allA) → Mo C [] w w1 → Mo allA [] w w1 := fun hc hm => hm.mono hc (fun _ c => absurd c List.not_mem_nil)
  have last : ∀ j i w y, i + j = usN s 6 → CW s w → Mo allA [] w0 w → (∀ i, i < usN s 6 → w.2 18 i = lN (cnA s i)) → fdm (fun i => lN (cnA s i)) j y i = ck5 s → E 1 M_A_checksum 151 [(0, .ref 0), (1, .long y), (3, .int (nI (usN s 6))), (4, .int (nI i))] [] w (qL 1 K) := by
    intro j
    induction j with
    | zero =>
      intro i w y hi hCw hm hL hy
      refine w_A_checksum_151 (pk_le (usN s 6) i (fun _ => r_A_designBlocks (t_develop hs hCw (fun w1 hC1 hm1 hD1 => ?_))) (fun c => by omega))
      intro b3 e3
      refine r_A_rank ⟨fun _ => t_rank (p := 2) hs hC1 (Or.inl rfl) (fun w2 hC2 hm2 => ?_), fun c => absurd rfl c⟩
      have hK := h w2 hC2 ((hm.tr (m0 (by decide) hm1)).tr (m0 (by decide) hm2))
      have ey : y = ck5 s := hy
      rw [e3, hD1.1, ey]
      exact hK
    | succ j ih =>
      intro i w y hi hCw hm hL hy
      refine w_A_checksum_151 ?_
      rw [nI_clamp (by omega), hL i (by omega)]
      refine pk_le (usN s 6) i (fun c => by omega) (fun _ => ⟨vp_in_nI (by omega) (by decide), fun b6 e6 a7 e7 => ?_⟩)
      rw [i1, nI_add] at e7
      subst e7
      subst e6
      exact ih (i + 1) w _ (by omega) hCw hm hL hy
  have mid : ∀ j d w y, d + j = sN s * sM s → CW s w → Mo allA [] w0 w → (∀ d, d < 40 → w.1 9 d = nI (cn s d)) → fdm (fun d => (nI (cn s d)).toInt64) j y d = ck2 s → E 1 M_A_checksum 79 [(0, .ref 0), (1, .long y), (3, .int (nI d))] [] w (qL 1 K) := by
    intro j
    induction j with
    | zero =>
      intro d w y hd hCw hm hL hy
      have ey : y = ck2 s := hy
      subst ey
      refine w_A_checksum_79 ?_
      rw [hCw.1.1.2.2.2.1]
      refine pk_le (sN s * sM s) d (fun _ => r_A_multipliers (t_mults hs hCw (fun w1 hC1 hm1 => ?_))) (fun c => by omega)
      intro b3 e3
      refine r_A_symmetries (t_symm hs hC1 (fun w2 hC2 hm2 => ?_))
      intro b6 e6
      refine t_findLeast hs hC2 (fun w3 hC3 hm3 hL3 => ?_)
      have q6 : b6 = ck4 s := by
        rw [e6, e3]
        rfl
      subst q6
      exact last (usN s 6) 0 w3 _ (by omega) hC3 (((hm.tr (m0 (by decide) hm1)).tr (m0 (by decide) hm2)).tr (m0 (by decide) hm3)) hL3 rfl
    | succ j ih =>
      intro d w y hd hCw hm hL hy
      refine w_A_checksum_79 ?_
      rw [hCw.1.1.2.2.2.1, nI_clamp (by omega), hL d (by omega)]
      refine pk_le (sN s * sM s) d (fun c => by omega) (fun _ => ⟨vp_in_nI (by omega) (by decide), fun b6 e6 a7 e7 => ?_⟩)
      rw [i1, nI_add] at e7
      subst e7
      subst e6
      exact ih (d + 1) w _ (by omega) hCw hm hL hy
  have first : ∀ j k w y, k + j = 6 → CW s w → Mo allA [] w0 w → fdm (fun k => lN (sBl s k)) j y k = ck1 s → E 1 M_A_checksum 41 [(0, .ref 0), (1, .long y), (3, .int (nI k))] [] w (qL 1 K) := by
    intro j
    induction j with
    | zero =>
      intro k w y hk hCw hm hy
      have ey : y = ck1 s := hy
      subst ey
      refine w_A_checksum_41 (pk_le 6 k (fun _ => t_tal hs hCw (fun w1 hC1 hm1 hL1 => ?_)) (fun c => by omega))
      exact mid (sN s * sM s - 1) 1 w1 _ (by omega) hC1 (hm.tr hm1) hL1 rfl
    | succ j ih =>
      intro k w y hk hCw hm hy
      refine w_A_checksum_41 ?_
      rw [nI_clamp (by omega), hCw.2.2.1 k (by omega)]
      refine pk_le 6 k (fun c => by omega) (fun _ => ⟨vp_in_nI (by omega) (by decide), fun b6 e6 a7 e7 => ?_⟩)
      rw [i1, nI_add] at e7
      subst e7
      subst e6
      exact ih (k + 1) w _ (by omega) hCw hm hy
  refine r_A_checksum (r_A_order ?_)
  rw [hC.1.1.2.2.2.1]
  intro b3 e3
  refine r_A_automorphisms ?_
  rw [hC.na]
  intro b6 e6
  refine r_A_hole ?_
  rw [show w0.2 0 12 = lN (sHo s) from hC.2.1]
  intro b9 e9
  have q9 : b9 = ck0 s := by
    rw [e9, e6, e3]
    rfl
  subst q9
  exact first 6 0 w0 _ (by omega) hC (Mo.rf _ _ _) rfl
theorem u_check {s : Sg} {w0 : Wd} {K : Int64 → Wd → Prop} (hs : WF s) (hM : MW s w0) (h : ∀ w, MW s w → Mo allB [] w0 w → K (ck7 s) w) : RunL 1 M_B_checksum [.ref 39] w0 K := by
  have ok := hs.1
  have hv := ok.2.2
  have hv2 : 2 ≤ sN s * sM s := Nat.le_trans ok.1 ok.nv
  have hu6 := usN_6 s
  have n480 := nAut_480 ok
  have m0 : ∀ {C D : List Nat} {w w1 : Wd}, (∀ p ∈ C, p ∈ allB) → Mo C D w w1 → Mo allB [] w w1 := fun hc hm => hm.mono hc (fun _ _ => Or.inr (by decide))
  have last : ∀ j i w y, i + j = usN s 6 → MW s w → Mo allB [] w0 w → w.1 39 19 = nI (usN s 6) → (∀ i, i < usN s 6 → w.2 51 i = lN (cnA s i)) → fdm (fun i => lN (cnA s i)) j y i = ck5 s → E 1 M_B_checksum 124 [(0, .ref 39), (1, .long y), (3, .int (nI i))] [] w (qL 1 K) := by
    intro j
    induction j with
    | zero =>
      intro i w y hi hMw hm h19 hL hy
      refine w_B_checksum_124 ?_
      rw [h19]
      refine pk_le (usN s 6) i (fun _ => r_B_designBlocks (u_develop hs hMw (fun w1 hM1 hm1 hD1 => r_B_more ?_))) (fun c => by omega)
      refine u_rank (p := 2) hs hM1 (Or.inl rfl) (fun w2 hM2 hm2 => r_B_more ?_)
      have hK := h w2 hM2 ((hm.tr (m0 (by decide) hm1)).tr (m0 (by decide) hm2))
      have ey : y = ck5 s := hy
      rw [hD1.1, ey]
      exact hK
    | succ j ih =>
      intro i w y hi hMw hm h19 hL hy
      refine w_B_checksum_124 ?_
      rw [h19, nI_clamp (by omega), hL i (by omega)]
      refine pk_le (usN s 6) i (fun c => by omega) (fun _ => ⟨vp_in_nI (by omega) (by decide), r_B_more (fun a7 e7 => ?_)⟩)
      rw [i1, nI_add] at e7
      subst e7
      exact ih (i + 1) w _ (by omega) hMw hm h19 hL hy
  have mid : ∀ j d w y, d + j = sN s * sM s → MW s w → Mo allB [] w0 w → (∀ d, d < 40 → w.1 48 d = nI (cn s d)) → fdm (fun d => (nI (cn s d)).toInt64) j y d = ck2 s → E 1 M_B_checksum 64 [(0, .ref 39), (1, .long y), (3, .int (nI d))] [] w (qL 1 K) := by
    intro j
    induction j with
    | zero =>
      intro d w y hd hMw hm hL hy
      have ey : y = ck2 s := hy
      subst ey
      refine w_B_checksum_64 ?_
      rw [hMw.1.1.2.2.2]
      refine pk_le (sN s * sM s) d (fun _ => u_mults hs hMw (fun w1 hM1 hm1 => r_B_more (u_symm hs hM1 (fun w2 hM2 hm2 => r_B_more (u_canon hs hM2 (fun w3 hM3 hm3 h19 hL3 => ?_)))))) (fun c => by omega)
      exact last (usN s 6) 0 w3 _ (by omega) hM3 (((hm.tr (m0 (by decide) hm1)).tr (m0 (by decide) hm2)).tr (m0 (by decide) hm3)) h19 hL3 rfl
    | succ j ih =>
      intro d w y hd hMw hm hL hy
      refine w_B_checksum_64 ?_
      rw [hMw.1.1.2.2.2, nI_clamp (by omega), hL d (by omega)]
      refine pk_le (sN s * sM s) d (fun c => by omega) (fun _ => ⟨vp_in_nI (by omega) (by decide), r_B_more (fun a7 e7 => ?_)⟩)
      rw [i1, nI_add] at e7
      subst e7
      exact ih (d + 1) w _ (by omega) hMw hm hL hy
  have first : ∀ j k w y, k + j = 6 → MW s w → Mo allB [] w0 w → fdm (fun k => lN (sBl s k)) j y k = ck1 s → E 1 M_B_checksum 29 [(0, .ref 39), (1, .long y), (3, .int (nI k))] [] w (qL 1 K) := by
    intro j
    induction j with
    | zero =>
      intro k w y hk hMw hm hy
      have ey : y = ck1 s := hy
      subst ey
      refine w_B_checksum_29 (pk_le 6 k (fun _ => u_tal hs hMw (fun w1 hM1 hm1 hL1 => ?_)) (fun c => by omega))
      exact mid (sN s * sM s - 1) 1 w1 _ (by omega) hM1 (hm.tr hm1) hL1 rfl
    | succ j ih =>
      intro k w y hk hMw hm hy
      refine w_B_checksum_29 ?_
      rw [nI_clamp (by omega), hMw.2.2.1 k (by omega)]
      refine pk_le 6 k (fun c => by omega) (fun _ => ⟨vp_in_nI (by omega) (by decide), r_B_more (fun a7 e7 => ?_)⟩)
      rw [i1, nI_add] at e7
      subst e7
      exact ih (k + 1) w _ (by omega) hMw hm hy
  refine r_B_checksum (r_B_more ?_)
  rw [hM.na]
  refine r_B_more ?_
  rw [show w0.2 39 3 = lN (sHo s) from hM.2.1, hM.1.1.2.2.2]
  refine r_B_more ?_
  exact first 6 0 w0 _ (by omega) hM (Mo.rf _ _ _) rfl
theorem op_checksum : Op_checksum INV := by
  rintro w ⟨s, hs⟩
  exact glueL (val := ck7 s) (nx := s) hs (t_check hs.1 hs.2.1 (fun w2 h2 m2 => ⟨rfl, h2, m2⟩)) (fun w1 hM => u_check hs.1 hM (fun w2 h2 m2 => ⟨rfl, h2, m2⟩)) hs.1
