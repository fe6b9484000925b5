theorem op_multiply : Op_multiply INV := by
  rintro a1 w ⟨s, hs⟩
  have hC := hs.2.1
  have ok := hs.1.1
  have hv := ok.2.2
  have h40 := pow40 ok.2.2
  rcases rg_or 1 1000 (by decide) (by decide) a1 with h1 | ⟨t, ht1, ht2, rfl⟩
  · exact glueI (val := -1) (nx := s) hs (r_A_multiply (t_wiF rfl rfl h1 (zf (sameA hC)))) (fun w1 hM => r_B_multiply (u_inF rfl rfl rfl h1 (zf (sameB hM)))) hs.1
  have hgp : 0 < Nat.gcd t (sN s * sM s) := Nat.gcd_pos_of_pos_left _ (by omega)
  have hgl : Nat.gcd t (sN s * sM s) ≤ t := Nat.gcd_le_left _ (by omega)
  by_cases hg : Nat.gcd t (sN s * sM s) = 1
  · have hφ : ∀ x, x < sN s * sM s → gM (sN s) (sM s) t x < sN s * sM s := fun x _ => gM_lt ok t x
    refine glueI (val := nI (mpN s (gM (sN s) (sM s) t) 6)) (nx := stF s (mpF s (gM (sN s) (sM s) t))) hs (r_A_multiply (t_wiT rfl rfl ht1 ht2 (by decide) (zt (t_coprime hC.1.1 (by omega) ?_)))) (fun w1 hM => r_B_multiply (u_inT rfl rfl rfl ht1 ht2 (by decide) (zt ?_))) (hs.1.f (fun k _ => mpF_lt ok hφ k))
    · rw [show coP t (sN s * sM s) = true from decide_eq_true hg]
      exact zt' (t_note hs.1.hs hC.2.2.2.1 hC.2.2.1 (fun w7 hm7 hY7 => r_K_mapByFactor (t_fillMul rfl (by decide) (hC.1.mo hm7 (by decide)).1 (by decide) (by omega) (fun w8 h8 h15 => t_mapAll hs.1 hC hm7 hY7 h8 hφ h15 (fun w9 h9 m9 => ⟨rfl, h9, m9⟩)))))
    · rw [hM.1.1.2.2.2]
      refine u_gcd (by omega) (by omega) ?_
      rw [hg]
      refine ⟨fun _ => u_note hs.1.hs hM.2.2.2.1 hM.2.2.1 (fun w7 hm7 hY7 => ?_), fun c => absurd (by decide) c⟩
      have hB7 := hM.2.2.1.mo hm7 (by decide)
      have key : ∀ j k w2, k + j = 6 → Mo [40] [] w7 w2 → (∀ q, q < k → w2.2 40 q = lN (mpF s (gM (sN s) (sM s) t) q)) → (∀ q, k ≤ q → q < 6 → w2.2 40 q = lN (sBl s q)) → E 1 M_B_multiply 34 [(0, .ref 39), (1, .int (nI t)), (2, .int (nI (mpN s (gM (sN s) (sM s) t) k))), (3, .int (nI k))] [] w2 (qI 1 (fun r w3 => r = nI (mpN s (gM (sN s) (sM s) t) 6) ∧ MW (stF s (mpF s (gM (sN s) (sM s) t))) w3 ∧ Mo allB [] w1 w3)) := by
        intro j
        induction j with
        | zero =>
          intro k w2 hk hm hlo hhi
          refine w_B_multiply_34 (pk_le 6 k (fun _ => ?_) (fun c => by omega))
          rw [show k = 6 by omega]
          exact ⟨rfl, hM.f hm7 hY7 hm (fun q hq => hlo q (by omega))⟩
        | succ j ih =>
          intro k w2 hk hm hlo hhi
          have hb := hs.1.bl (k := k) (by omega)
          have hf := mpF_lt ok hφ k
          have hG2 : mG s w2 := (hM.1.mo hm7 (by decide) (by decide) (by decide) (by decide)).mo hm (by decide) (by decide) (by decide) (by decide)
          refine w_B_multiply_34 (pk_le 6 k (fun c => by omega) (fun c => ⟨vp_in_nI (by omega) (by decide), ?_⟩))
          rw [nI_clamp (by omega), hhi k (Nat.le_refl k) (by omega)]
          refine u_timesOf hG2.1 (by omega) ht2 ⟨vp_in_nI (by omega) (by decide), ?_⟩
          rw [hhi k (Nat.le_refl k) (by omega), show imS (gM (sN s) (sM s) t) (sBl s k) (sN s * sM s) = mpF s (gM (sN s) (sM s) t) k from rfl, fb_lN_inj (by omega) (by omega)]
          have hlo2 : ∀ w3 : Wd, w3 = upL w2 40 k (lN (mpF s (gM (sN s) (sM s) t) k)) → ∀ q, q < k + 1 → w3.2 40 q = lN (mpF s (gM (sN s) (sM s) t) q) := by
            intro w3 e3 q hq
            rcases Nat.lt_or_ge q k with h1 | h1
            · rw [e3, upL_ne (by omega)]; exact hlo q h1
            · have : q = k := by omega
              subst this
              rw [e3, upL_eq]
          have hhi2 : ∀ w3 : Wd, w3 = upL w2 40 k (lN (mpF s (gM (sN s) (sM s) t) k)) → ∀ q, k + 1 ≤ q → q < 6 → w3.2 40 q = lN (sBl s q) := by
            intro w3 e3 q hq hq2
            rw [e3, upL_ne (by omega)]
            exact hhi q (by omega) hq2
          refine ⟨fun c1 a5 e5 => ⟨vp_in_nI (by omega) (by decide), fun w3 e3 a4 e4 => ?_⟩, fun c1 a5 e5 => ⟨vp_in_nI (by omega) (by decide), fun w3 e3 a4 e4 => ?_⟩⟩
          · rw [i1, nI_add] at e4 e5
            subst e4
            subst e5
            have := ih (k + 1) w3 (by omega) (by rw [e3]; exact hm.upL _ (Or.inl (by decide))) (hlo2 w3 e3) (hhi2 w3 e3)
            rw [mpN_s, if_pos c1] at this
            exact this
          · rw [i1, nI_add] at e4
            rw [i0, nI_add, Nat.add_zero] at e5
            subst e4
            subst e5
            have := ih (k + 1) w3 (by omega) (by rw [e3]; exact hm.upL _ (Or.inl (by decide))) (hlo2 w3 e3) (hhi2 w3 e3)
            rw [mpN_s, if_neg (by simpa using c1), Nat.add_zero] at this
            exact this
      exact key 6 0 w7 (by decide) (Mo.rf _ _ _) (fun q hq => absurd hq (Nat.not_lt_zero q)) (fun q _ hq => hB7 q hq)
  · refine glueI (val := -1) (nx := s) hs (r_A_multiply (t_wiT rfl rfl ht1 ht2 (by decide) (zt (t_coprime hC.1.1 (by omega) ?_)))) (fun w1 hM => r_B_multiply (u_inT rfl rfl rfl ht1 ht2 (by decide) (zt ?_))) hs.1
    · rw [show coP t (sN s * sM s) = false from decide_eq_false hg]
      exact zf' (sameA hC)
    · rw [hM.1.1.2.2.2]
      refine u_gcd (by omega) (by omega) ?_
      rw [i1]
      exact pk_le (Nat.gcd t (sN s * sM s)) 1 (fun c => absurd (Nat.le_antisymm c hgp) hg) (fun _ => sameB hM)
/-- the number of blocks that are not empty -/
def usN (s : Sg) : Nat → Nat := fb_ct (fun k => decide (sBl s k ≠ 0))
theorem usN_s (s : Sg) (k : Nat) : usN s (k + 1) = usN s k + (if sBl s k ≠ 0 then 1 else 0) := by
  show fb_ct _ (k + 1) = _
  rw [fb_ct_succ]
  congr 1
  by_cases h : sBl s k ≠ 0
  · rw [if_pos h, if_pos (decide_eq_true h)]
  · rw [if_neg h, if_neg (by simpa using h)]
theorem t_filled {s : Sg} {w : Wd} {K : Int32 → Wd → Prop} (hs : WF s) (hB : cB s w) (h : K (nI (usN s 6)) w) : RunI 1 M_A_filledBlocks [.ref 0] w K := by
  have h40 := pow40 hs.1.2.2
  have key : ∀ j k, k + j = 6 → E 1 M_A_filledBlocks 4 [(0, .ref 0), (1, .int (nI (usN s k))), (2, .int (nI k))] [] w (qI 1 K) := by
    intro j
    induction j with
    | zero =>
      intro k hk
      refine w_A_filledBlocks_4 (pk_le 6 k (fun _ => ?_) (fun c => by omega))
      rw [show k = 6 by omega]
      exact h
    | succ j ih =>
      intro k hk
      have hb := hs.bl (k := k) (by omega)
      refine w_A_filledBlocks_4 (pk_le 6 k (fun c => by omega) (fun c => ⟨vp_in_nI (by omega) (by decide), ?_⟩))
      rw [nI_clamp (by omega), hB k (by omega), lN_0 (by omega)]
      have := ih (k + 1) (by omega)
      rw [usN_s] at this
      refine ⟨fun c1 a4 e4 => ?_, fun c1 a5 e5 a4 e4 => ?_⟩
      · rw [i1, nI_add] at e4
        subst e4
        rw [if_neg (by simpa using c1), Nat.add_zero] at this
        exact this
      · rw [i1, nI_add] at e4 e5
        subst e4
        subst e5
        rw [if_pos c1] at this
        exact this
  exact r_A_filledBlocks (key 6 0 (by decide))
theorem u_used {s : Sg} {w : Wd} {K : Int32 → Wd → Prop} (hs : WF s) (hB : mB s w) (h : K (nI (usN s 6)) w) : RunI 1 M_B_used [.ref 39] w K := by
  have h40 := pow40 hs.1.2.2
  have key : ∀ j k, k + j = 6 → E 1 M_B_used 4 [(0, .ref 39), (1, .int (nI (usN s k))), (2, .int (nI k))] [] w (qI 1 K) := by
    intro j
    induction j with
    | zero =>
      intro k hk
      refine w_B_used_4 (pk_le 6 k (fun _ => ?_) (fun c => by omega))
      rw [show k = 6 by omega]
      exact h
    | succ j ih =>
      intro k hk
      have hb := hs.bl (k := k) (by omega)
      refine w_B_used_4 (pk_le 6 k (fun c => by omega) (fun c => ⟨vp_in_nI (by omega) (by decide), ?_⟩))
      rw [nI_clamp (by omega), hB k (by omega), lN_0 (by omega)]
      have := ih (k + 1) (by omega)
      rw [usN_s] at this
      refine ⟨fun c1 a5 e5 a4 e4 => ?_, fun c1 a5 e5 a4 e4 => ?_⟩
      · rw [i1, nI_add] at e4 e5
        subst e4
        subst e5
        rw [if_pos c1] at this
        exact this
      · rw [i1, nI_add] at e4
        rw [i0, nI_add, Nat.add_zero] at e5
        subst e4
        subst e5
        rw [if_neg (by simpa using c1), Nat.add_zero] at this
        exact this
  exact r_B_used (key 6 0 (by decide))
