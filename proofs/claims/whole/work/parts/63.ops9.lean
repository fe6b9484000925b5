/-- operations over the counts -/
abbrev cn (s : Sg) (d : Nat) : Nat := ctF (sN s) (sM s) (sBl s) 6 d
theorem cn_le {s : Sg} (h : WF s) (d : Nat) : cn s d ≤ 240 := by
  have h1 := ctF_le (sN s) (sM s) (sBl s) d 6
  have := h.1.2.2
  show ctF _ _ _ _ _ ≤ _
  omega
theorem CW.on9 {s : Sg} {w w1 : Wd} (h : CW s w) (hm : OnI 9 w w1) : CW s w1 ∧ Mo allA [] w w1 := ⟨h.mo (hm.mo.mono (by decide) (fun _ c => absurd c List.not_mem_nil)), hm.mo.mono (by decide) (fun _ c => absurd c List.not_mem_nil)⟩
theorem MW.on48 {s : Sg} {w w1 : Wd} (h : MW s w) (hm : OnI 48 w w1) : MW s w1 ∧ Mo allB [] w w1 := ⟨h.mo (hm.mo.mono (by decide) (fun _ c => absurd c List.not_mem_nil)), hm.mo.mono (by decide) (fun _ c => absurd c List.not_mem_nil)⟩
theorem t_tal {s : Sg} {w0 : Wd} {K : Wd → Prop} (hs : WF s) (hC : CW s w0) (h : ∀ w, CW s w → Mo allA [] w0 w → (∀ d, d < 40 → w.1 9 d = nI (cn s d)) → K w) : RunV 1 M_F_tally [.ref 8, .ref 10] w0 K :=
  t_tally hs hC.1 hC.2.2.1 (fun w hm hd => h w (hC.on9 hm).1 (hC.on9 hm).2 hd)
theorem u_tal {s : Sg} {w0 : Wd} {K : Wd → Prop} (hs : WF s) (hM : MW s w0) (h : ∀ w, MW s w → Mo allB [] w0 w → (∀ d, d < 40 → w.1 48 d = nI (cn s d)) → K w) : RunV 1 M_B_counts [.ref 39, .ref 40, .int 6] w0 K :=
  u_counts (n0 := 6) (c0 := 6) rfl (by decide) hM.1.1 (by decide) (by decide) (fun k hk => ⟨hM.2.2.1 k hk, hs.bl hk⟩) (fun w hm hd => h w (hM.on48 hm).1 (hM.on48 hm).2 hd)
theorem op_count : Op_count INV := by
  rintro a1 w ⟨s, hs⟩
  have hC := hs.2.1
  have ok := hs.1.1
  have hv := ok.2.2
  have hv2 := ok.mv
  have hm0 := ok.m0
  rcases rg_or 1 (sN s * sM s - 1) (by decide) (by omega) a1 with h1 | ⟨d, hd1, hd2, rfl⟩
  · refine glueI (val := -1) (nx := s) hs (r_A_count ?_) (fun w1 hM => r_B_count ?_) hs.1
    · rcases el_or ok a1 with h2 | ⟨x, hx, rfl⟩
      · exact t_elF hC.1.1 h2 (zf (sameA hC))
      · refine t_elT hC.1.1 hx (zt ⟨fun c => ?_, fun _ => sameA hC⟩)
        exfalso
        have : x ≠ 0 := fun e => c (by rw [e]; rfl)
        rw [rng_t (by omega) (by omega) (by omega)] at h1
        cases h1
    · rw [hM.1.1.2.2.2, i1, pk_sub (by omega)]
      exact u_inF rfl rfl rfl h1 (zf' (sameB hM))
  · refine glueI (val := nI (cn s d)) (nx := s) hs (r_A_count (t_elT hC.1.1 (by omega) (zt ⟨fun _ => t_tal hs.1 hC (fun w2 h2 m2 c2 => ⟨vp_in_nI (by omega) (by decide), ?_, h2, m2⟩), fun c => ?_⟩))) (fun w1 hM => r_B_count ?_) hs.1
    · rw [nI_clamp (by omega), c2 d (by omega)]
    · exact absurd (nI_z (by omega) c) (by omega)
    · rw [hM.1.1.2.2.2, i1, pk_sub (by omega)]
      refine u_inT rfl rfl rfl hd1 hd2 (by omega) (zt' (u_tal hs.1 hM (fun w2 h2 m2 c2 => ⟨vp_in_nI (by omega) (by decide), ?_, h2, m2⟩)))
      rw [nI_clamp (by omega), c2 d (by omega)]
def cvN (c : Nat → Nat) : Nat → Nat := fb_ct (fun d => decide (0 < c d))
theorem cvN_s (c : Nat → Nat) (k : Nat) : cvN c (k + 1) = cvN c k + (if 0 < c k then 1 else 0) := by
  show fb_ct _ (k + 1) = _
  rw [fb_ct_succ]
  congr 1
  by_cases h : 0 < c k
  · rw [if_pos h, if_pos (decide_eq_true h)]
  · rw [if_neg h, if_neg (by simpa using h)]
theorem op_covered : Op_covered INV := by
  rintro w ⟨s, hs⟩
  have hC := hs.2.1
  have ok := hs.1.1
  have hv := ok.2.2
  have hv2 := ok.mv
  have hm0 := ok.m0
  have h1 : cvN (cn s) 1 = 0 := by rw [cvN_s, show cn s 0 = 0 from ctF_0 _ _ _ 6]; rfl
  refine glueI (val := nI (cvN (cn s) (sN s * sM s))) (nx := s) hs (r_A_covered (t_tal hs.1 hC (fun w2 h2 m2 c2 => r_F_positiveCounts ?_))) (fun w1 hM => r_B_covered (u_tal hs.1 hM (fun w2 h2 m2 c2 => ?_))) hs.1
  · have key : ∀ j k, k + j = sN s * sM s → E 1 M_F_positiveCounts 4 [(0, .ref 8), (1, .int (nI (cvN (cn s) k))), (2, .int (nI k))] [] w2 (qI 1 (fun r w1 => r = nI (cvN (cn s) (sN s * sM s)) ∧ CW s w1 ∧ Mo allA [] w w1)) := by
      intro j
      induction j with
      | zero =>
        intro k hk
        refine w_F_positiveCounts_4 ?_
        rw [h2.1.1.2.2.2.1]
        refine pk_le (sN s * sM s) k (fun _ => ?_) (fun c => by omega)
        rw [show k = sN s * sM s by omega]
        exact ⟨rfl, h2, m2⟩
      | succ j ih =>
        intro k hk
        have hle := cn_le hs.1 k
        have ih1 := ih (k + 1) (by omega)
        rw [cvN_s] at ih1
        refine w_F_positiveCounts_4 ?_
        rw [h2.1.1.2.2.2.1, nI_clamp (by omega), c2 k (by omega), i0]
        refine pk_le (sN s * sM s) k (fun c => by omega) (fun _ => ⟨vp_in_nI (by omega) (by decide), pk_le (cn s k) 0 (fun c a1 e1 => ?_) (fun c a1 e1 a2 e2 => ?_)⟩)
        · rw [i1, nI_add] at e1
          subst e1
          rw [if_neg (by omega), Nat.add_zero] at ih1
          exact ih1
        · rw [i1, nI_add] at e1 e2
          subst e1
          subst e2
          rw [if_pos (by omega)] at ih1
          exact ih1
    have := key (sN s * sM s - 1) 1 (by omega)
    rw [h1] at this
    exact this
  · have key : ∀ j k, k + j = sN s * sM s → E 1 M_B_covered 14 [(0, .ref 39), (1, .int (nI (cvN (cn s) k))), (2, .int (nI k))] [] w2 (qI 1 (fun r w3 => r = nI (cvN (cn s) (sN s * sM s)) ∧ MW s w3 ∧ Mo allB [] w1 w3)) := by
      intro j
      induction j with
      | zero =>
        intro k hk
        refine w_B_covered_14 ?_
        rw [h2.1.1.2.2.2]
        refine pk_le (sN s * sM s) k (fun _ => ?_) (fun c => by omega)
        rw [show k = sN s * sM s by omega]
        exact ⟨rfl, h2, m2⟩
      | succ j ih =>
        intro k hk
        have hle := cn_le hs.1 k
        have ih1 := ih (k + 1) (by omega)
        rw [cvN_s] at ih1
        refine w_B_covered_14 ?_
        rw [h2.1.1.2.2.2, nI_clamp (by omega), c2 k (by omega), i0]
        refine pk_le (sN s * sM s) k (fun c => by omega) (fun _ => ⟨vp_in_nI (by omega) (by decide), pk_le (cn s k) 0 (fun c a1 e1 a2 e2 => ?_) (fun c a1 e1 a2 e2 => ?_)⟩)
        · rw [nI_add, Nat.add_zero] at e1
          rw [i1, nI_add] at e2
          subst e1
          subst e2
          rw [if_neg (by omega), Nat.add_zero] at ih1
          exact ih1
        · rw [i1, nI_add] at e1 e2
          subst e1
          subst e2
          rw [if_pos (by omega)] at ih1
          exact ih1
    have := key (sN s * sM s - 1) 1 (by omega)
    rw [h1] at this
    exact this
def mxN (c : Nat → Nat) : Nat → Nat
  | 0 => 0
  | k + 1 => if mxN c k < c k then c k else mxN c k
theorem mxN_le {c : Nat → Nat} {B : Nat} (h : ∀ k, c k ≤ B) : ∀ k, mxN c k ≤ B
  | 0 => Nat.zero_le B
  | k + 1 => by
    rw [mxN]
    split
    · exact h k
    · exact mxN_le h k
theorem op_greatestCount : Op_greatestCount INV := by
  rintro w ⟨s, hs⟩
  have hC := hs.2.1
  have ok := hs.1.1
  have hv := ok.2.2
  have hv2 := ok.mv
  have hm0 := ok.m0
  have h1 : mxN (cn s) 1 = 0 := by rw [mxN, show cn s 0 = 0 from ctF_0 _ _ _ 6]; rfl
  refine glueI (val := nI (mxN (cn s) (sN s * sM s))) (nx := s) hs (r_A_greatestCount (t_tal hs.1 hC (fun w2 h2 m2 c2 => r_F_greatest ?_))) (fun w1 hM => r_B_greatestCount (u_tal hs.1 hM (fun w2 h2 m2 c2 => ?_))) hs.1
  · have key : ∀ j k, k + j = sN s * sM s → E 1 M_F_greatest 4 [(0, .ref 8), (1, .int (nI (mxN (cn s) k))), (2, .int (nI k))] [] w2 (qI 1 (fun r w1 => r = nI (mxN (cn s) (sN s * sM s)) ∧ CW s w1 ∧ Mo allA [] w w1)) := by
      intro j
      induction j with
      | zero =>
        intro k hk
        refine w_F_greatest_4 ?_
        rw [h2.1.1.2.2.2.1]
        refine pk_le (sN s * sM s) k (fun _ => ?_) (fun c => by omega)
        rw [show k = sN s * sM s by omega]
        exact ⟨rfl, h2, m2⟩
      | succ j ih =>
        intro k hk
        have hle := cn_le hs.1 k
        have hle2 := mxN_le (c := cn s) (cn_le hs.1) k
        have ih1 := ih (k + 1) (by omega)
        refine w_F_greatest_4 ?_
        rw [h2.1.1.2.2.2.1, nI_clamp (by omega), c2 k (by omega)]
        refine pk_le (sN s * sM s) k (fun c => by omega) (fun _ => ⟨vp_in_nI (by omega) (by decide), fun a1 e1 a2 e2 => ?_⟩)
        rw [i1, nI_add] at e2
        subst e2
        have e3 : a1 = nI (mxN (cn s) (k + 1)) := by
          rw [e1, mxN]
          by_cases hlt : mxN (cn s) k < cn s k
          · rw [if_pos hlt, if_pos (nI_lt hlt (by omega))]
          · rw [if_neg hlt, if_neg (nI_nlt (by omega) (by omega))]
        subst e3
        exact ih1
    have := key (sN s * sM s - 1) 1 (by omega)
    rw [h1] at this
    exact this
  · have key : ∀ j k, k + j = sN s * sM s → E 1 M_B_greatestCount 14 [(0, .ref 39), (1, .int (nI (mxN (cn s) k))), (2, .int (nI k))] [] w2 (qI 1 (fun r w3 => r = nI (mxN (cn s) (sN s * sM s)) ∧ MW s w3 ∧ Mo allB [] w1 w3)) := by
      intro j
      induction j with
      | zero =>
        intro k hk
        refine w_B_greatestCount_14 ?_
        rw [h2.1.1.2.2.2]
        refine pk_le (sN s * sM s) k (fun _ => ?_) (fun c => by omega)
        rw [show k = sN s * sM s by omega]
        exact ⟨rfl, h2, m2⟩
      | succ j ih =>
        intro k hk
        have hle := cn_le hs.1 k
        have hle2 := mxN_le (c := cn s) (cn_le hs.1) k
        have ih1 := ih (k + 1) (by omega)
        rw [mxN] at ih1
        refine w_B_greatestCount_14 ?_
        rw [h2.1.1.2.2.2, nI_clamp (by omega), c2 k (by omega)]
        refine pk_le (sN s * sM s) k (fun c => by omega) (fun _ => ⟨vp_in_nI (by omega) (by decide), pk_le (cn s k) (mxN (cn s) k) (fun c a1 e1 => ?_) (fun c => ⟨vp_in_nI (by omega) (by decide), fun a1 e1 a2 e2 => ?_⟩)⟩)
        · rw [i1, nI_add] at e1
          subst e1
          rw [if_neg (by omega)] at ih1
          exact ih1
        · rw [i1, nI_add] at e2
          subst e1
          subst e2
          rw [if_pos (by omega)] at ih1
          exact ih1
    have := key (sN s * sM s - 1) 1 (by omega)
    rw [h1] at this
    exact this
