theorem gF_ft {n m t x : Nat} (ok : GOK n m) (hx : x < n * m) : gF n m (gM n m t m) (gM n m t (1 % m)) x = gM n m t x := by
  have h1 : ∀ a y, gM n m a (gM n m t y) = gM n m t (gM n m a y) := fun a y => by rw [← gM_mul ok, ← gM_mul ok, Nat.mul_comm]
  unfold gF
  rw [h1, h1, ← gM_gA ok]
  have := gF_id ok hx
  unfold gF at this
  rw [this]
/-- is a factor a multiplier -/
def isM (s : Sg) (t : Nat) : Bool := coP t (sN s * sM s) && decide (cpr (liS s (gM (sN s) (sM s) t)).2 (liS s iD).2 (usN s 6) 0 = 0)
theorem isM_f {s : Sg} {t : Nat} (h : coP t (sN s * sM s) = false) : isM s t = false := by
  unfold isM
  rw [h]
  rfl
theorem isM_t {s : Sg} {t : Nat} (h : coP t (sN s * sM s) = true) : isM s t = decide (cpr (liS s (gM (sN s) (sM s) t)).2 (liS s iD).2 (usN s 6) 0 = 0) := by
  unfold isM
  rw [h]
  rfl
theorem t_own {s : Sg} {t : Nat} {w0 : Wd} {K : Bool → Wd → Prop} (hs : WF s) (hC : CW s w0) (ht : t < 2 ^ 31) (hL : lW 16 (liS s iD) w0) (h : ∀ w, CW s w → Mo [15, 17] [] w0 w → lW 16 (liS s iD) w → K (decide (cpr (liS s (gM (sN s) (sM s) t)).2 (liS s iD).2 (usN s 6) 0 = 0)) w) : RunZ 1 M_K_isOwnByFactor [.ref 14, .ref 10, .int (nI t), .int (nI (usN s 6))] w0 K := by
  have ok := hs.1
  have hu6 := usN_6 s
  have hφ : ∀ x, x < sN s * sM s → gM (sN s) (sM s) t x < sN s * sM s := fun x _ => gM_lt ok t x
  refine r_K_isOwnByFactor (t_fillMul rfl (by decide) hC.1.1 (by decide) ht (fun w1 hm1 h15 => t_img hs (hC.on15 hm1) (Or.inr (Or.inl rfl)) hφ h15 (fun w2 hC2 hm2 hL2 => ?_)))
  have m2 : Mo [15, 17] [] w0 w2 := (hm1.mo.mono (by decide) (fun _ c => absurd c List.not_mem_nil)).tr (hm2.mo.mono (by decide) (fun _ c => absurd c List.not_mem_nil))
  have hL16 : lW 16 (liS s iD) w2 := fun i hi => by
    rw [(m2.pl 16 (by decide) (by decide)).2]
    exact hL i hi
  have hK := h w2 hC2 m2 hL16
  refine t_compare (F := (liS s (gM (sN s) (sM s) t)).2) (G := (liS s iD).2) rfl (by decide) rfl (by decide) hu6 (fun i hi => ⟨hL2 i (by rw [liS_n]; exact hi), liS_62 hs hφ i⟩) (fun i hi => ⟨hL16 i (by rw [liS_n]; exact hi), liS_62 hs (fun x hx => hx) i⟩) ?_
  rw [cpv_0]
  refine ⟨fun c => ?_, fun c => ?_⟩
  · rw [decide_eq_false c] at hK
    exact hK
  · rw [decide_eq_true c] at hK
    exact hK
theorem u_now {s : Sg} {t : Nat} {w0 : Wd} {K : Bool → Wd → Prop} (hs : WF s) (hM : MW s w0) (ht0 : 1 ≤ t) (ht : t ≤ 40) (h : ∀ w, MW s w → Mo [49, 50] [19] w0 w → K (isM s t) w) : RunZ 1 M_B_isMultiplierNow [.ref 39, .int (nI t)] w0 K := by
  have ok := hs.1
  have hv := ok.2.2
  have hi := idU ok
  have hu6 := usN_6 s
  have hgp : 0 < Nat.gcd t (sN s * sM s) := Nat.gcd_pos_of_pos_left _ (by omega)
  have hgl : Nat.gcd t (sN s * sM s) ≤ t := Nat.gcd_le_left _ (by omega)
  refine r_B_isMultiplierNow ?_
  rw [hM.1.1.2.2.2]
  refine u_gcd (by omega) (by omega) ?_
  rw [i1]
  refine pk_le (Nat.gcd t (sN s * sM s)) 1 (fun c => ?_) (fun c => ?_)
  · have hco : coP t (sN s * sM s) = true := decide_eq_true (Nat.le_antisymm c hgp)
    rw [isM_t hco] at h
    refine u_asIs hs hM (fun w1 hM1 hm1 _ hL1 => ?_)
    rw [hM1.1.1.2.2.2, hM1.1.1.2.2.1, rem_id ok]
    refine ⟨nI_ne0 ok.v0 (by omega), u_times hM1.1.1 (by omega) hi.2.1 ?_⟩
    rw [hM1.1.1.2.2.1, ← i1, rem_1 ok]
    refine ⟨nI_ne0 ok.m0 (by have := ok.m40; omega), u_times hM1.1.1 (by omega) hi.2.2 (u_lst hs hM1 (Or.inl rfl) (gM_lt ok _ _) (gM_lt ok _ _) (fun w2 hM2 hm2 h19 hL2 => ?_))⟩
    have e1 : liS s (gF (sN s) (sM s) (gM (sN s) (sM s) t (sM s)) (gM (sN s) (sM s) t (1 % sM s))) = liS s (gM (sN s) (sM s) t) := liF_cong (fun x hx => gF_ft ok hx) 6
    rw [e1] at hL2
    have hL50 : lW 50 (liS s iD) w2 := fun i hi => by
      rw [(hm2.pl 50 (by decide) (by decide)).2]
      exact hL1 i hi
    have hK := h w2 hM2 ((hm1.mono (by decide) (by decide)).tr (hm2.mono (by decide) (by decide)))
    refine u_compare (F := (liS s (gM (sN s) (sM s) t)).2) (G := (liS s iD).2) rfl (by decide) rfl (by decide) hu6 h19 (fun i hi => ⟨hL2 i (by rw [liS_n]; exact hi), liS_62 hs (fun x _ => gM_lt ok t x) i⟩) (fun i hi => ⟨hL50 i (by rw [liS_n]; exact hi), liS_62 hs (fun x hx => hx) i⟩) ?_
    rw [cpv_0]
    refine ⟨fun c => ?_, fun c => ?_⟩
    · rw [decide_eq_false c] at hK
      exact hK
    · rw [decide_eq_true c] at hK
      exact hK
  · have hco : coP t (sN s * sM s) = false := decide_eq_false (by omega)
    rw [isM_f hco] at h
    exact h w0 hM (Mo.rf _ _ _)
def mlF (s : Sg) : Nat → Nat
  | 0 => 0
  | t + 1 => mlF s t ||| (if t ≠ 0 ∧ isM s t = true then 2 ^ t else 0)
theorem mlF_1 (s : Sg) : mlF s 1 = 0 := by
  show 0 ||| (if _ then _ else 0) = 0
  rw [if_neg (fun c => c.1 rfl)]
  rfl
theorem t_mults {s : Sg} {w0 : Wd} {K : Int64 → Wd → Prop} (hs : WF s) (hC : CW s w0) (h : ∀ w, CW s w → Mo [15, 16, 17] [] w0 w → K (lN (mlF s (sN s * sM s))) w) : RunL 1 M_K_keepingFactors [.ref 14, .ref 10] w0 K := by
  have ok := hs.1
  have hv := ok.2.2
  have hv2 := ok.mv
  have hm0 := ok.m0
  have key : ∀ j t w, t + j = sN s * sM s → t ≠ 0 → CW s w → Mo [15, 16, 17] [] w0 w → lW 16 (liS s iD) w → E 1 M_K_keepingFactors 15 [(0, .ref 14), (1, .ref 10), (2, .int (nI (usN s 6))), (3, .long (lN (mlF s t))), (5, .int (nI t))] [] w (qL 1 K) := by
    intro j
    induction j with
    | zero =>
      intro t w ht h0 hCw hm hL
      refine w_K_keepingFactors_15 ?_
      rw [hCw.1.1.2.2.2.1]
      refine pk_le (sN s * sM s) t (fun _ => ?_) (fun c => by omega)
      rw [show t = sN s * sM s by omega]
      exact h w hCw hm
    | succ j ih =>
      intro t w ht h0 hCw hm hL
      have ih1 := ih (t + 1)
      rw [mlF] at ih1
      refine w_K_keepingFactors_15 ?_
      rw [hCw.1.1.2.2.2.1]
      refine pk_le (sN s * sM s) t (fun c => by omega) (fun _ => t_coprime hCw.1.1 (by omega) ?_)
      cases hco : coP t (sN s * sM s) with
      | false =>
        refine zf (fun a3 e3 => ?_)
        rw [i1, nI_add] at e3
        subst e3
        rw [if_neg (fun c => by rw [isM_f hco] at c; cases c.2), Nat.or_zero] at ih1
        exact ih1 w (by omega) (by omega) hCw hm hL
      | true =>
        refine zt (t_own hs hCw (by omega) hL (fun w2 hC2 hm2 hL2 => ?_))
        rw [← isM_t hco]
        have hm3 : Mo [15, 16, 17] [] w0 w2 := hm.tr (hm2.mono (by decide) (fun _ c => absurd c List.not_mem_nil))
        cases hb : isM s t with
        | false =>
          refine zf (fun a3 e3 => ?_)
          rw [i1, nI_add] at e3
          subst e3
          rw [if_neg (fun c => by rw [hb] at c; cases c.2), Nat.or_zero] at ih1
          exact ih1 w2 (by omega) (by omega) hC2 hm3 hL2
        | true =>
          refine zt (fun b7 e7 a8 e8 => ?_)
          rw [l_pow (by omega), fb_orL] at e7
          rw [i1, nI_add] at e8
          subst e7
          subst e8
          rw [if_pos ⟨h0, hb⟩] at ih1
          exact ih1 w2 (by omega) (by omega) hC2 hm3 hL2
  refine r_K_keepingFactors (t_same hs hC (Or.inl rfl) (fun w1 hC1 hm1 hL1 => ?_))
  have h0 := key (sN s * sM s - 1) 1 w1 (by omega) (by decide) hC1 (hm1.mono (by decide) (fun _ c => absurd c List.not_mem_nil)) hL1
  rw [mlF_1] at h0
  exact h0
theorem u_mults {s : Sg} {w0 : Wd} {K : Int64 → Wd → Prop} (hs : WF s) (hM : MW s w0) (h : ∀ w, MW s w → Mo [49, 50] [19] w0 w → K (lN (mlF s (sN s * sM s))) w) : RunL 1 M_B_multipliers [.ref 39] w0 K := by
  have ok := hs.1
  have hv := ok.2.2
  have hv2 := ok.mv
  have hm0 := ok.m0
  have key : ∀ j t w, t + j = sN s * sM s → t ≠ 0 → MW s w → Mo [49, 50] [19] w0 w → E 1 M_B_multipliers 4 [(0, .ref 39), (1, .long (lN (mlF s t))), (3, .int (nI t))] [] w (qL 1 K) := by
    intro j
    induction j with
    | zero =>
      intro t w ht h0 hMw hm
      refine w_B_multipliers_4 ?_
      rw [hMw.1.1.2.2.2]
      refine pk_le (sN s * sM s) t (fun _ => ?_) (fun c => by omega)
      rw [show t = sN s * sM s by omega]
      exact h w hMw hm
    | succ j ih =>
      intro t w ht h0 hMw hm
      have ih1 := ih (t + 1)
      rw [mlF] at ih1
      refine w_B_multipliers_4 ?_
      rw [hMw.1.1.2.2.2]
      refine pk_le (sN s * sM s) t (fun c => by omega) (fun _ => u_now hs hMw (by omega) (by omega) (fun w2 hM2 hm2 => ?_))
      cases hb : isM s t with
      | false =>
        refine zf (fun b7 e7 a3 e3 => ?_)
        rw [show (0 : Int64) = lN 0 from rfl, fb_orL] at e7
        rw [i1, nI_add] at e3
        subst e3
        subst e7
        rw [if_neg (fun c => by rw [hb] at c; cases c.2)] at ih1
        exact ih1 w2 (by omega) (by omega) hM2 (hm.tr hm2)
      | true =>
        refine zt (fun b7 e7 a8 e8 => ?_)
        rw [l_pow (by omega), fb_orL] at e7
        rw [i1, nI_add] at e8
        subst e7
        subst e8
        rw [if_pos ⟨h0, hb⟩] at ih1
        exact ih1 w2 (by omega) (by omega) hM2 (hm.tr hm2)
  have h0 := key (sN s * sM s - 1) 1 w0 (by omega) (by decide) hM (Mo.rf _ _ _)
  rw [mlF_1] at h0
  exact r_B_multipliers h0
theorem kA {w0 w : Wd} (m : Mo [15, 16, 17] [] w0 w) : Mo allA [] w0 w := m.mono (by decide) (fun _ c => absurd c List.not_mem_nil)
theorem kB {w0 w : Wd} (m : Mo [49, 50] [19] w0 w) : Mo allB [] w0 w := m.mono (by decide) (fun _ _ => Or.inr (by decide))
theorem op_multipliers : Op_multipliers INV := by
  rintro w ⟨s, hs⟩
  exact glueL (val := lN (mlF s (sN s * sM s))) (nx := s) hs (r_A_multipliers (t_mults hs.1 hs.2.1 (fun w2 h2 m2 => ⟨rfl, h2, kA m2⟩))) (fun w1 hM => u_mults hs.1 hM (fun w2 h2 m2 => ⟨rfl, h2, kB m2⟩)) hs.1
theorem op_isMultiplier : Op_isMultiplier INV := by
  rintro a1 w ⟨s, hs⟩
  have hC := hs.2.1
  have ok := hs.1.1
  have hv := ok.2.2
  have hv2 := ok.mv
  have hm0 := ok.m0
  rcases rg_or 1 (sN s * sM s - 1) (by decide) (by omega) a1 with h1 | ⟨t, ht1, ht2, rfl⟩
  · refine glueI (val := -1) (nx := s) hs (r_A_isMultiplier ?_) (fun w1 hM => r_B_isMultiplier ?_) hs.1
    · rw [hC.1.1.2.2.2.1, i1, pk_sub (by omega)]
      exact t_wiF rfl rfl h1 (zf' (sameA hC))
    · rw [hM.1.1.2.2.2, i1, pk_sub (by omega)]
      exact u_inF rfl rfl rfl h1 (zf' (sameB hM))
  · refine glueI (val := if isM s t = true then 1 else 0) (nx := s) hs (r_A_isMultiplier ?_) (fun w1 hM => r_B_isMultiplier ?_) hs.1
    · rw [hC.1.1.2.2.2.1, i1, pk_sub (by omega)]
      refine t_wiT rfl rfl ht1 ht2 (by omega) (zt' (r_K_isKeptByFactor (t_same hs.1 hC (Or.inl rfl) (fun w2 hC2 hm2 hL2 => t_coprime hC2.1.1 (by omega) ?_))))
      have m2 : Mo [15, 16, 17] [] w w2 := hm2.mono (by decide) (fun _ c => absurd c List.not_mem_nil)
      cases hco : coP t (sN s * sM s) with
      | false =>
        rw [isM_f hco]
        exact zf (zf ⟨rfl, hC2, kA m2⟩)
      | true =>
        rw [isM_t hco]
        refine zt (t_own hs.1 hC2 (by omega) hL2 (fun w3 hC3 hm3 _ => ?_))
        have m3 : Mo allA [] w w3 := kA (m2.tr (hm3.mono (by decide) (fun _ c => absurd c List.not_mem_nil)))
        cases decide (cpr (liS s (gM (sN s) (sM s) t)).2 (liS s iD).2 (usN s 6) 0 = 0) with
        | false => exact zf (zf ⟨rfl, hC3, m3⟩)
        | true => exact zt (zt ⟨rfl, hC3, m3⟩)
    · rw [hM.1.1.2.2.2, i1, pk_sub (by omega)]
      refine u_inT rfl rfl rfl ht1 ht2 (by omega) (zt' (u_now hs.1 hM ht1 (by omega) (fun w3 hM3 hm3 => ?_)))
      cases isM s t with
      | false => exact zf ⟨rfl, hM3, kB hm3⟩
      | true => exact zt ⟨rfl, hM3, kB hm3⟩
