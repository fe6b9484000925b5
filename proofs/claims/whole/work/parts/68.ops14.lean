theorem fb_ct_lt {p : Nat → Bool} {a : Nat} : ∀ {n : Nat}, (∀ k, k < n → (p k = true ↔ k < a)) → fb_ct p n = min a n
  | 0, _ => by rw [Nat.min_zero]; rfl
  | n + 1, h => by
    rw [fb_ct_succ, fb_ct_lt (fun k hk => h k (by omega))]
    by_cases h1 : p n = true
    · rw [if_pos h1]
      have := (h n (by omega)).mp h1
      omega
    · rw [if_neg h1]
      have : ¬ n < a := fun c => h1 ((h n (by omega)).mpr c)
      omega
theorem op_takeSolution : Op_takeSolution INV := by
  rintro w ⟨s, hs⟩
  have hC := hs.2.1
  have hsn : sSn s ≤ 4 := hs.1.2.2.2.2.2.2.2.1
  have hns : sNs s < 2 ^ 20 := hs.1.2.2.2.2.2.2.1
  have hiff : sNs s = 0 ↔ sSn s = 0 := hs.1.2.2.2.2.2.2.2.2.1
  have hfs := hs.1.2.2.2.2.2.2.2.2.2.2.2.2.1
  have h40 := pow40 hs.1.1.2.2
  have eC : w.1 24 10 = nI (sNs s) := hC.2.2.2.2.2.2.1.2.2.1
  by_cases h0 : sNs s = 0
  · refine glueI (val := -3) (nx := s) hs (r_A_takeSolution ?_) (fun w1 hM => r_B_takeSolution ?_) hs.1
    · rw [eC, h0]
      exact ⟨fun c => absurd rfl c, fun _ => sameA hC⟩
    · rw [hM.2.2.2.2.2.1.2.2.1, hiff.mp h0]
      exact ⟨fun c => absurd rfl c, fun _ => sameB hM⟩
  · have hf := hfs (by omega)
    have hs0 : sSn s ≠ 0 := fun c => h0 (hiff.mpr c)
    have hN : WF (stF s (sFs s)) := hs.1.f (fun k _ => (hf k).2.2)
    have hus : usN (stF s (sFs s)) 6 = sSn s := by
      show fb_ct (fun k => decide (sFs s k ≠ 0)) 6 = _
      rw [fb_ct_lt (a := sSn s) (fun k _ => ?_), Nat.min_eq_left (by omega)]
      rw [decide_eq_true_eq]
      refine ⟨fun c => ?_, fun c => (hf k).1 c⟩
      rcases Nat.lt_or_ge k (sSn s) with h1 | h1
      · exact h1
      · exact absurd ((hf k).2.1 h1) c
    refine glueI (val := nI (sSn s)) (nx := stF s (sFs s)) hs (r_A_takeSolution ⟨fun _ => t_note hs.1.hs hC.2.2.2.1 hC.2.2.1 (fun w7 hm7 hY7 => ⟨by decide, fun w8 e8 => ?_⟩), fun c => ?_⟩) (fun w1 hM => r_B_takeSolution ?_) hN
    · have h3 := hC.f hm7 hY7 (w2 := w8) (f := sFs s) (by rw [e8]; exact (Mo.rf _ _ w7).cp _ _ _ (by decide)) (fun k hk => by
        rw [e8]
        have e9 : (cpL w7 31 10 0 0 6).2 10 k = w7.2 31 (0 + (k - 0)) := cpL_in (Nat.zero_le _) (by omega)
        have e10 : (cpL w7 31 10 (0 : Int32).toNatClampNeg (0 : Int32).toNatClampNeg (6 : Int32).toNatClampNeg).2 10 k = (cpL w7 31 10 0 0 6).2 10 k := rfl
        rw [e10, e9, Nat.zero_add, Nat.sub_zero, (hm7.pl 31 (by decide) (by decide)).2]
        exact hC.2.2.2.2.2.2.1.2.2.2.1 (by omega) k hk)
      refine t_filled hN h3.1.2.2.1 ⟨?_, h3⟩
      rw [hus]
    · rw [eC] at c
      exact absurd (nI_z (by omega) c) h0
    · have eM : w1.1 39 16 = nI (sSn s) := hM.2.2.2.2.2.1.2.2.1
      have hFb := hM.2.2.2.2.2.1.2.2.2
      refine ⟨fun _ => u_note hs.1.hs hM.2.2.2.1 hM.2.2.1 (fun w7 hm7 hY7 => ?_), fun c => ?_⟩
      · have key : ∀ j k w2, k + j = 6 → Mo [40] [] w7 w2 → (∀ q, q < k → w2.2 40 q = lN (sFs s q)) → E 1 M_B_takeSolution 16 [(0, .ref 39), (1, .int (nI k))] [] w2 (qI 1 (fun r w3 => r = nI (sSn s) ∧ MW (stF s (sFs s)) w3 ∧ Mo allB [] w1 w3)) := by
          intro j
          induction j with
          | zero =>
            intro k w2 hk hm hd
            refine w_B_takeSolution_16 (pk_le 6 k (fun _ => ⟨?_, hM.f hm7 hY7 hm (fun q hq => hd q (by omega))⟩) (fun c => by omega))
            rw [(hm.sl 16 (by decide) (by decide)).1, (hm7.sl 16 (by decide) (by decide)).1, eM]
          | succ j ih =>
            intro k w2 hk hm hd
            refine w_B_takeSolution_16 (pk_le 6 k (fun c => by omega) (fun _ => ?_))
            rw [(hm.sl 16 (by decide) (by decide)).1, (hm7.sl 16 (by decide) (by decide)).1, eM, nI_clamp (by omega)]
            have hlo2 : ∀ w3 : Wd, w3 = upL w2 40 k (lN (sFs s k)) → ∀ q, q < k + 1 → w3.2 40 q = lN (sFs s q) := by
              intro w3 e3 q hq
              rcases Nat.lt_or_ge q k with h1 | h1
              · rw [e3, upL_ne (by omega)]; exact hd q h1
              · have : q = k := by omega
                subst this
                rw [e3, upL_eq]
            refine pk_le (sSn s) k (fun c => ⟨vp_in_nI (by omega) (by decide), fun w3 e3 a2 e2 => ?_⟩) (fun c => ⟨vp_in_nI (by omega) (by decide), vp_in_nI (by omega) (by decide), fun w3 e3 a2 e2 => ?_⟩)
            · rw [i1, nI_add] at e2
              subst e2
              refine ih (k + 1) w3 (by omega) (by rw [e3]; exact hm.upL _ (Or.inl (by decide))) (hlo2 w3 ?_)
              rw [e3, (hf k).2.1 c]
              rfl
            · rw [i1, nI_add] at e2
              subst e2
              refine ih (k + 1) w3 (by omega) (by rw [e3]; exact hm.upL _ (Or.inl (by decide))) (hlo2 w3 ?_)
              rw [e3, (hm.pl 47 (by decide) (by decide)).2, (hm7.pl 47 (by decide) (by decide)).2, hFb k c]
        exact key 6 0 w7 (by decide) (Mo.rf _ _ _) (fun q hq => absurd hq (Nat.not_lt_zero q))
      · rw [eM] at c
        exact absurd (nI_z (by omega) c) hs0
