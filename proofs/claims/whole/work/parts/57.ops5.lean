/-- all blocks mapped -/
def mpF (s : Sg) (φ : Nat → Nat) : Nat → Nat := fun k => imS φ (sBl s k) (sN s * sM s)
def mpN (s : Sg) (φ : Nat → Nat) : Nat → Nat := fb_ct (fun k => decide (mpF s φ k ≠ sBl s k))
theorem mpN_le (s : Sg) (φ : Nat → Nat) (k : Nat) : mpN s φ k ≤ k := fb_ct_le _ k
theorem mpN_s (s : Sg) (φ : Nat → Nat) (k : Nat) : mpN s φ (k + 1) = mpN s φ k + (if mpF s φ k ≠ sBl s k then 1 else 0) := by
  show fb_ct _ (k + 1) = _
  rw [fb_ct_succ]
  congr 1
  by_cases h : mpF s φ k ≠ sBl s k
  · rw [if_pos h, if_pos (decide_eq_true h)]
  · rw [if_neg h, if_neg (by simpa using h)]
theorem mpF_lt {s : Sg} (ok : GOK (sN s) (sM s)) {φ : Nat → Nat} (hφ : ∀ x, x < sN s * sM s → φ x < sN s * sM s) (k : Nat) : mpF s φ k < 2 ^ (sN s * sM s) := imS_lt hφ
theorem t_mapAll_l {s : Sg} {φ : Nat → Nat} {w0 : Wd} {K : Int32 → Wd → Prop} (hs : WF s) (hG : Ga (sN s) (sM s) w0) (hB : cB s w0) (hφ : ∀ x, x < sN s * sM s → φ x < sN s * sM s) (h15 : ∀ x, x < sN s * sM s → w0.1 15 x = nI (φ x)) (h : ∀ w, Mo [10] [] w0 w → (∀ k, k < 6 → w.2 10 k = lN (mpF s φ k)) → K (nI (mpN s φ 6)) w) :
    ∀ j k w, k + j = 6 → Mo [10] [] w0 w → (∀ q, q < k → w.2 10 q = lN (mpF s φ q)) → (∀ q, k ≤ q → q < 6 → w.2 10 q = lN (sBl s q)) → E 1 M_K_mapAll 4 [(0, .ref 14), (1, .ref 10), (2, .int (nI (mpN s φ k))), (3, .int (nI k))] [] w (qI 1 K) := by
  have ok := hs.1
  have h40 := pow40 ok.2.2
  have hv := ok.2.2
  intro j
  induction j with
  | zero =>
    intro k w hk hm hlo hhi
    refine w_K_mapAll_4 (pk_le 6 k (fun _ => ?_) (fun c => by omega))
    rw [show k = 6 by omega]
    exact h w hm (fun q hq => hlo q (by omega))
  | succ j ih =>
    intro k w hk hm hlo hhi
    have hb := hs.bl (k := k) (by omega)
    have hf := mpF_lt ok hφ k
    have hGw : Ga (sN s) (sM s) w := by
      obtain ⟨a1, a2, a3, a4, a5⟩ := hG
      have k1 := hm.pl 1 (by decide) (by decide)
      have k2 := hm.pl 2 (by decide) (by decide)
      have k3 := hm.pl 3 (by decide) (by decide)
      exact ⟨a1, by rw [k1.1]; exact a2, by rw [k1.1]; exact a3, by rw [k1.1]; exact a4, fun x hx => by rw [k2.1, k3.1]; exact a5 x hx⟩
    refine w_K_mapAll_4 (pk_le 6 k (fun c => by omega) (fun c => ⟨vp_in_nI (by omega) (by decide), ?_⟩))
    rw [nI_clamp (by omega), hhi k (Nat.le_refl k) (by omega)]
    refine t_mapped (φ := φ) rfl (by decide) hGw (by omega) (fun x hx => ⟨by rw [(hm.pl 15 (by decide) (by decide)).1]; exact h15 x hx, Nat.lt_of_lt_of_le (hφ x hx) (by omega)⟩) ⟨vp_in_nI (by omega) (by decide), ?_⟩
    rw [hhi k (Nat.le_refl k) (by omega), show imS φ (sBl s k) (sN s * sM s) = mpF s φ k from rfl, fb_lN_inj (by omega) (by omega)]
    have hlo2 : ∀ w3 : Wd, w3 = upL w 10 k (lN (mpF s φ k)) → ∀ q, q < k + 1 → w3.2 10 q = lN (mpF s φ q) := by
      intro w3 e3 q hq
      rcases Nat.lt_or_ge q k with h1 | h1
      · rw [e3, upL_ne (by omega)]; exact hlo q h1
      · have : q = k := by omega
        subst this
        rw [e3, upL_eq]
    have hhi2 : ∀ w3 : Wd, w3 = upL w 10 k (lN (mpF s φ k)) → ∀ q, k + 1 ≤ q → q < 6 → w3.2 10 q = lN (sBl s q) := by
      intro w3 e3 q hq hq2
      rw [e3, upL_ne (by omega)]
      exact hhi q (by omega) hq2
    refine ⟨fun c1 => ⟨vp_in_nI (by omega) (by decide), fun w3 e3 a4 e4 => ?_⟩, fun c1 a5 e5 => ⟨vp_in_nI (by omega) (by decide), fun w3 e3 a4 e4 => ?_⟩⟩
    · rw [i1, nI_add] at e4
      subst e4
      have := ih (k + 1) w3 (by omega) (by rw [e3]; exact hm.upL _ (Or.inl (by decide))) (hlo2 w3 e3) (hhi2 w3 e3)
      rw [mpN_s, if_neg (by simpa using c1), Nat.add_zero] at this
      exact this
    · rw [i1, nI_add] at e4 e5
      subst e4
      subst e5
      have := ih (k + 1) w3 (by omega) (by rw [e3]; exact hm.upL _ (Or.inl (by decide))) (hlo2 w3 e3) (hhi2 w3 e3)
      rw [mpN_s, if_pos c1] at this
      exact this
theorem CW.mp {s : Sg} {w w1 w2 w3 : Wd} {f : Nat → Nat} (h : CW s w) (h1 : Mo [11, 12] [] w w1) (hY : cY (stH s) w1) (h2 : OnI 15 w1 w2) (h3 : Mo [10] [] w2 w3) (hB : ∀ k, k < 6 → w3.2 10 k = lN (f k)) : CW (stF s f) w3 ∧ Mo allA [] w w3 := by
  have hm : Mo [10, 11, 12, 15] [] w w3 := ((h1.mono (by decide) (fun _ c => absurd c List.not_mem_nil)).tr (h2.mo.mono (by decide) (fun _ c => absurd c List.not_mem_nil))).tr (h3.mono (by decide) (fun _ c => absurd c List.not_mem_nil))
  have hm2 : Mo [10, 15] [] w1 w3 := (h2.mo.mono (by decide) (fun _ c => absurd c List.not_mem_nil)).tr (h3.mono (by decide) (fun _ c => absurd c List.not_mem_nil))
  obtain ⟨a, b, c, d, e, g, i, j⟩ := h
  exact ⟨⟨a.mo hm (by decide), b.mo hm (by decide), hB, hY.mo hm2 (by decide) (by decide), e.mo hm (by decide) (by decide) (by decide), g.mo hm (by decide) (by decide) (by decide), i.mo hm (by decide) (by decide) (by decide), j.mo hm (by decide) (by decide)⟩, hm.mono (by decide) (fun _ c => absurd c List.not_mem_nil)⟩
theorem t_mapAll {s : Sg} {φ : Nat → Nat} {w w1 w2 : Wd} {K : Int32 → Wd → Prop} (hs : WF s) (hC : CW s w) (h1 : Mo [11, 12] [] w w1) (hY : cY (stH s) w1) (h2 : OnI 15 w1 w2) (hφ : ∀ x, x < sN s * sM s → φ x < sN s * sM s) (h15 : ∀ x, x < sN s * sM s → w2.1 15 x = nI (φ x)) (h : ∀ w3, CW (stF s (mpF s φ)) w3 → Mo allA [] w w3 → K (nI (mpN s φ 6)) w3) : RunI 1 M_K_mapAll [.ref 14, .ref 10] w2 K := by
  have hm : Mo [11, 12, 15] [] w w2 := (h1.mono (by decide) (fun _ c => absurd c List.not_mem_nil)).tr (h2.mo.mono (by decide) (fun _ c => absurd c List.not_mem_nil))
  have hB := hC.2.2.1.mo hm (by decide)
  refine r_K_mapAll (t_mapAll_l hs (hC.1.mo hm (by decide)).1 hB hφ h15 (fun w3 hm3 hd3 => ?_) 6 0 w2 (by decide) (Mo.rf _ _ _) (fun q hq => absurd hq (Nat.not_lt_zero q)) (fun q _ hq => hB q hq))
  have h3 := hC.mp h1 hY h2 hm3 hd3
  exact h w3 h3.1 h3.2
theorem op_apply : Op_apply INV := by
  rintro a1 w ⟨s, hs⟩
  have hC := hs.2.1
  have ok := hs.1.1
  have h40 := pow40 ok.2.2
  rcases au_or ok a1 with h1 | ⟨u, hu, rfl⟩
  · exact glueI (val := -1) (nx := s) hs (r_A_apply (t_auF hC.1 h1 (zf' (sameA hC)))) (fun w1 hM => r_B_apply (u_auF hM.1 h1 (zf' (sameB hM)))) hs.1
  have hat := aut_at hu
  have hφ : ∀ x, x < sN s * sM s → gF (sN s) (sM s) (aU (sN s) (sM s) u) (aZ (sN s) (sM s) u) x < sN s * sM s := fun x _ => gF_lt ok _ _ x
  refine glueI (val := nI (mpN s (gF (sN s) (sM s) (aU (sN s) (sM s) u) (aZ (sN s) (sM s) u)) 6)) (nx := stF s (mpF s (gF (sN s) (sM s) (aU (sN s) (sM s) u) (aZ (sN s) (sM s) u)))) hs (r_A_apply (t_auT hC.1 hu (zt' (t_note hs.1.hs hC.2.2.2.1 hC.2.2.1 (fun w7 hm7 hY7 => r_K_mapByAutomorphism (t_fillAut rfl (by decide) (hC.1.mo hm7 (by decide)) (by decide) hu (fun w8 h8 h15 => t_mapAll hs.1 hC hm7 hY7 h8 hφ h15 (fun w9 h9 m9 => ⟨rfl, h9, m9⟩)))))))) (fun w1 hM => r_B_apply (u_auT hM.1 hu (zt' (u_note hs.1.hs hM.2.2.2.1 hM.2.2.1 (fun w7 hm7 hY7 => ?_))))) (hs.1.f (fun k _ => mpF_lt ok hφ k))
  have n480 := nAut_480 ok
  have hB7 := hM.2.2.1.mo hm7 (by decide)
  have key : ∀ j k w2, k + j = 6 → Mo [40] [] w7 w2 → (∀ q, q < k → w2.2 40 q = lN (mpF s (gF (sN s) (sM s) (aU (sN s) (sM s) u) (aZ (sN s) (sM s) u)) q)) → (∀ q, k ≤ q → q < 6 → w2.2 40 q = lN (sBl s q)) → E 1 M_B_apply 18 [(0, .ref 39), (1, .int (nI u)), (2, .int (nI (mpN s (gF (sN s) (sM s) (aU (sN s) (sM s) u) (aZ (sN s) (sM s) u)) k))), (3, .int (nI k))] [] w2 (qI 1 (fun r w3 => r = nI (mpN s (gF (sN s) (sM s) (aU (sN s) (sM s) u) (aZ (sN s) (sM s) u)) 6) ∧ MW (stF s (mpF s (gF (sN s) (sM s) (aU (sN s) (sM s) u) (aZ (sN s) (sM s) u)))) w3 ∧ Mo allB [] w1 w3)) := by
    intro j
    induction j with
    | zero =>
      intro k w2 hk hm hlo hhi
      refine w_B_apply_18 (pk_le 6 k (fun _ => ?_) (fun c => by omega))
      rw [show k = 6 by omega]
      exact ⟨rfl, hM.f hm7 hY7 hm (fun q hq => hlo q (by omega))⟩
    | succ j ih =>
      intro k w2 hk hm hlo hhi
      have hb := hs.1.bl (k := k) (by omega)
      have hf := mpF_lt ok hφ k
      have hG2 : mG s w2 := (hM.1.mo hm7 (by decide) (by decide) (by decide) (by decide)).mo hm (by decide) (by decide) (by decide) (by decide)
      refine w_B_apply_18 (pk_le 6 k (fun c => by omega) (fun c => ⟨vp_in_nI (by omega) (by decide), vp_in_nI (by omega) (by decide), vp_in_nI (by omega) (by decide), ?_⟩))
      rw [nI_clamp (by omega), nI_clamp (by omega), hhi k (Nat.le_refl k) (by omega), (hG2.2.2 u hu).1, (hG2.2.2 u hu).2]
      refine u_imageOf hG2.1 (by omega) hat.1 hat.2.1 ⟨vp_in_nI (by omega) (by decide), ?_⟩
      rw [hhi k (Nat.le_refl k) (by omega), show imS (gF (sN s) (sM s) ((autL (sN s) (sM s)).getD u (0, 0)).1 ((autL (sN s) (sM s)).getD u (0, 0)).2) (sBl s k) (sN s * sM s) = mpF s (gF (sN s) (sM s) (aU (sN s) (sM s) u) (aZ (sN s) (sM s) u)) k from rfl, fb_lN_inj (by omega) (by omega)]
      have hlo2 : ∀ w3 : Wd, w3 = upL w2 40 k (lN (mpF s (gF (sN s) (sM s) (aU (sN s) (sM s) u) (aZ (sN s) (sM s) u)) k)) → ∀ q, q < k + 1 → w3.2 40 q = lN (mpF s (gF (sN s) (sM s) (aU (sN s) (sM s) u) (aZ (sN s) (sM s) u)) q) := by
        intro w3 e3 q hq
        rcases Nat.lt_or_ge q k with h1 | h1
        · rw [e3, upL_ne (by omega)]; exact hlo q h1
        · have : q = k := by omega
          subst this
          rw [e3, upL_eq]
      have hhi2 : ∀ w3 : Wd, w3 = upL w2 40 k (lN (mpF s (gF (sN s) (sM s) (aU (sN s) (sM s) u) (aZ (sN s) (sM s) u)) k)) → ∀ q, k + 1 ≤ q → q < 6 → w3.2 40 q = lN (sBl s q) := by
        intro w3 e3 q hq hq2
        rw [e3, upL_ne (by omega)]
        exact hhi q (by omega) hq2
      refine ⟨fun c1 a5 e5 => ⟨vp_in_nI (by omega) (by decide), fun w3 e3 a4 e4 => ?_⟩, fun c1 a5 e5 => ⟨vp_in_nI (by omega) (by decide), fun w3 e3 a4 e4 => ?_⟩⟩
      · rw [i1, nI_add] at e4 e5
        subst e4
        subst e5
        have := ih (k + 1) w3 (by omega) (by rw [e3]; exact hm.upL _ (Or.inl (by decide))) (hlo2 w3 e3) (hhi2 w3 e3)
        rw [mpN_s, if_pos c1] at this
        exact this
      · rw [i1, nI_add] at e4
        rw [i0, nI_add, Nat.add_zero] at e5
        subst e4
        subst e5
        have := ih (k + 1) w3 (by omega) (by rw [e3]; exact hm.upL _ (Or.inl (by decide))) (hlo2 w3 e3) (hhi2 w3 e3)
        rw [mpN_s, if_neg (by simpa using c1), Nat.add_zero] at this
        exact this
  exact key 6 0 w7 (by decide) (Mo.rf _ _ _) (fun q hq => absurd hq (Nat.not_lt_zero q)) (fun q _ hq => hB7 q hq)
