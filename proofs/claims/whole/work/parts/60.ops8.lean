theorem u_restore {s : Sg} {q : Nat} {w0 : Wd} (hs : WF s) (hN : WF (stB s (sKh s q) 0 (sKb s q))) (hM : MW s w0) (hq : q < 2) (hf : sFi s q = 1) :
    E 1 M_B_restore 26 [(0, .ref 39), (1, .int (nI q)), (2, .int (nI 0))] [] w0 (qI 1 (fun r w2 => r = nI (usN (stB s (sKh s q) 0 (sKb s q)) 6) ∧ MW (stB s (sKh s q) 0 (sKb s q)) w2 ∧ Mo allB [] w0 w2)) := by
  have hK := (hM.2.2.2.2.1 q hq).2 hf
  have key : ∀ j k w, k + j = 6 → Mo [40] [3, 6] w0 w → (∀ i, i < k → w.2 40 i = lN (sKb s q i)) → E 1 M_B_restore 26 [(0, .ref 39), (1, .int (nI q)), (2, .int (nI k))] [] w (qI 1 (fun r w2 => r = nI (usN (stB s (sKh s q) 0 (sKb s q)) 6) ∧ MW (stB s (sKh s q) 0 (sKb s q)) w2 ∧ Mo allB [] w0 w2)) := by
    intro j
    induction j with
    | zero =>
      intro k w hk hm hd
      refine w_B_restore_26 (pk_le 6 k (fun _ => ?_) (fun c => by omega))
      rw [show (7 : Int32) = nI 7 from rfl, i6, pk_mul, nI_add, nI_clamp (by omega), (hm.pl 42 (by decide) (by decide)).2, hK.1]
      refine ⟨vp_in_nI (by omega) (by decide), fun w1 e1 w2 e2 => ?_⟩
      have hm2 : Mo [40] [3, 6] w0 w2 := by rw [e2, e1]; exact (hm.upL _ (Or.inr (by decide))).upI _ (Or.inr (by decide))
      have h3 := hM.b (ho := sKh s q) (hs := 0) (f := sKb s q) hm2 (by rw [e2, upI_2, e1, upL_eq]) (fun i hi => by rw [e2, upI_2, e1, upL_ne (by omega)]; exact hd i (by omega)) (by rw [e2, upI_eq]; rfl) (Nat.zero_le _)
      exact u_used hN h3.1.2.2.1 ⟨rfl, h3⟩
    | succ j ih =>
      intro k w hk hm hd
      refine w_B_restore_26 (pk_le 6 k (fun c => by omega) (fun c => ?_))
      rw [show (7 : Int32) = nI 7 from rfl, pk_mul, nI_add, nI_clamp (by omega), nI_clamp (by omega), (hm.pl 42 (by decide) (by decide)).2, hK.2 k (by omega)]
      refine ⟨vp_in_nI (by omega) (by decide), vp_in_nI (by omega) (by decide), fun w1 e1 a2 e2 => ?_⟩
      rw [i1, nI_add] at e2
      subst e2
      refine ih (k + 1) w1 (by omega) (by rw [e1]; exact hm.upL _ (Or.inl (by decide))) (fun i hi => ?_)
      rcases Nat.lt_or_ge i k with h2 | h2
      · rw [e1, upL_ne (by omega)]; exact hd i h2
      · have : i = k := by omega
        subst this
        rw [e1, upL_eq]
  exact key 6 0 w0 (by decide) (Mo.rf _ _ _) (fun i hi => absurd hi (Nat.not_lt_zero i))
theorem op_restore : Op_restore INV := by
  rintro a1 w ⟨s, hs⟩
  have hC := hs.2.1
  rcases rg_or 0 1 (by decide) (by decide) a1 with h1 | ⟨q, -, hq, rfl⟩
  · exact glueI (val := -1) (nx := s) hs (r_A_restore (slF h1 (zf' (sameA hC)))) (fun w1 hM => r_B_restore (u_inF rfl rfl rfl h1 (zf' (sameB hM)))) hs.1
  have hq2 : q < 2 := by omega
  have hw := hs.1.2.2.2.2.2.2.2.2.2.2.2.2.2 q hq2
  by_cases hf : sFi s q = 0
  · refine glueI (val := -3) (nx := s) hs (r_A_restore (slT hq2 (zt' ?_))) (fun w1 hM => r_B_restore (u_inT rfl rfl rfl (Nat.zero_le q) hq (by decide) (zt' ⟨vp_in_nI (by omega) (by decide), ?_⟩))) hs.1
    · rcases (show q = 0 ∨ q = 1 by omega) with rfl | rfl
      · refine sl0 (p35 ⟨fun c => absurd ?_ c, fun _ => sameA hC⟩)
        rw [hC.2.2.2.2.1.1, hf]
        rfl
      · refine sl1 (p37 ⟨fun c => absurd ?_ c, fun _ => sameA hC⟩)
        rw [hC.2.2.2.2.2.1.1, hf]
        rfl
    · rw [nI_clamp (by omega), (hM.2.2.2.2.1 q hq2).1, hf]
      exact ⟨fun c => absurd rfl c, fun _ => sameB hM⟩
  · obtain ⟨hf1, hkh, hkb⟩ := hw.resolve_left hf
    have hN : WF (stB s (sKh s q) 0 (sKb s q)) := hs.1.b hkh (Nat.zero_le _) hkb
    refine glueI (val := nI (usN (stB s (sKh s q) 0 (sKb s q)) 6)) (nx := stB s (sKh s q) 0 (sKb s q)) hs (r_A_restore (slT hq2 (zt' ?_))) (fun w1 hM => r_B_restore (u_inT rfl rfl rfl (Nat.zero_le q) hq (by decide) (zt' ⟨vp_in_nI (by omega) (by decide), ?_⟩))) hN
    · have fin : ∀ p, p = 35 + 2 * q → cS s q p w → ∀ w5, w5 = upI (upL (cpL w (p + 1) 10 0 0 6) 0 12 (lN (sKh s q))) 11 1 0 → RunI 1 M_A_filledBlocks [.ref 0] w5 (fun r w1 => r = nI (usN (stB s (sKh s q) 0 (sKb s q)) 6) ∧ CW (stB s (sKh s q) 0 (sKb s q)) w1 ∧ Mo allA [] w w1) := by
        intro p hp hS w5 e5
        have hm : Mo [0, 10, 11] [] w w5 := by
          rw [e5]
          exact (((Mo.rf _ _ w).cp _ _ _ (by decide)).upL _ (Or.inl (by decide))).upI _ (Or.inl (by decide))
        have h3 := hC.b (ho := sKh s q) (hs := 0) (f := sKb s q) hm (by rw [e5, upI_2, upL_eq]) (fun k hk => by rw [e5, upI_2, upL_ne (by omega), cpL_in (Nat.zero_le _) (by omega), Nat.zero_add]; exact (hS.2 hf1).2 k hk) (by rw [e5, upI_eq]; rfl) (Nat.zero_le _)
        exact t_filled hN h3.1.2.2.1 ⟨rfl, h3⟩
      rcases (show q = 0 ∨ q = 1 by omega) with rfl | rfl
      · have hS := hC.2.2.2.2.1
        refine sl0 (p35 ⟨fun _ => sl0 (p35 ⟨by decide, fun w7 e7 => sl0 (p35 (fun w8 e8 => r_H_forget (fun w9 e9 => fin 35 rfl hS w9 ?_)))⟩), fun c => ?_⟩)
        · have q7 : w7.2 35 1 = lN (sKh s 0) := by rw [e7, cpL_ne (by decide)]; exact (hS.2 hf1).1
          rw [e9, e8, q7, e7]
          rfl
        · rw [hS.1, hf1] at c
          exact absurd c (by decide)
      · have hS := hC.2.2.2.2.2.1
        refine sl1 (p37 ⟨fun _ => sl1 (p37 ⟨by decide, fun w7 e7 => sl1 (p37 (fun w8 e8 => r_H_forget (fun w9 e9 => fin 37 rfl hS w9 ?_)))⟩), fun c => ?_⟩)
        · have q7 : w7.2 37 1 = lN (sKh s 1) := by rw [e7, cpL_ne (by decide)]; exact (hS.2 hf1).1
          rw [e9, e8, q7, e7]
          rfl
        · rw [hS.1, hf1] at c
          exact absurd c (by decide)
    · rw [nI_clamp (by omega), (hM.2.2.2.2.1 q hq2).1, hf1]
      exact ⟨fun _ => u_restore hs.1 hN hM hq2 hf1, fun c => absurd c (by decide)⟩
