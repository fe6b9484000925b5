/-- keep and restore -/
def stK (s : Sg) (q : Nat) : Sg := st2 (st1 (st1 s (9 + q) 1) (11 + q) (sHo s)) (4 + q) (sBl s)
theorem stK_1 {s : Sg} {q j : Nat} (h : j ≠ 9 + q) (h2 : j ≠ 11 + q) : (stK s q).1 j = s.1 j := by
  show (if j = 11 + q then _ else (if j = 9 + q then _ else s.1 j)) = _
  rw [if_neg h2, if_neg h]
theorem stK_2 {s : Sg} {q j : Nat} (h : j ≠ 4 + q) : (stK s q).2 j = s.2 j := if_neg h
theorem stK_f (s : Sg) {q : Nat} : sFi (stK s q) q = 1 := by
  show (if 9 + q = 11 + q then _ else (if 9 + q = 9 + q then 1 else _)) = _
  rw [if_neg (by omega), if_pos rfl]
theorem stK_h (s : Sg) {q : Nat} : sKh (stK s q) q = sHo s := if_pos rfl
theorem stK_b (s : Sg) {q : Nat} : sKb (stK s q) q = sBl s := if_pos rfl
theorem stK_o {s : Sg} {q r : Nat} (hq : q < 2) (hr : r < 2) (h : r ≠ q) : sFi (stK s q) r = sFi s r ∧ sKh (stK s q) r = sKh s r ∧ sKb (stK s q) r = sKb s r := ⟨stK_1 (by omega) (by omega), stK_1 (by omega) (by omega), stK_2 (by omega)⟩
theorem WF.k {s : Sg} (h : WF s) {q : Nat} (hq : q < 2) : WF (stK s q) := by
  have h2 := h
  obtain ⟨a, b, c, d, e, f1, g, i, j, k, l, m, n, o⟩ := h
  have e0 : sN (stK s q) = sN s := stK_1 (by omega) (by omega)
  have e1 : sM (stK s q) = sM s := stK_1 (by omega) (by omega)
  have e2 : sHo (stK s q) = sHo s := stK_1 (by omega) (by omega)
  have e3 : sHs (stK s q) = sHs s := stK_1 (by omega) (by omega)
  have e4 : sTl (stK s q) = sTl s := stK_1 (by omega) (by omega)
  have e5 : sSc (stK s q) = sSc s := stK_1 (by omega) (by omega)
  have e6 : sCc (stK s q) = sCc s := stK_1 (by omega) (by omega)
  have e7 : sNs (stK s q) = sNs s := stK_1 (by omega) (by omega)
  have e8 : sSn (stK s q) = sSn s := stK_1 (by omega) (by omega)
  have r0 : sBl (stK s q) = sBl s := stK_2 (by omega)
  have r1 : sHh (stK s q) = sHh s := stK_2 (by omega)
  have r2 : sTx (stK s q) = sTx s := stK_2 (by omega)
  have r3 : sFs (stK s q) = sFs s := stK_2 (by omega)
  unfold WF
  rw [e0, e1, e2, e3, e4, e5, e6, e7, e8, r0, r1, r2, r3]
  refine ⟨a, b, c, d, e, f1, g, i, j, k, l, m, n, fun r hr => ?_⟩
  by_cases hrq : r = q
  · subst hrq
    rw [stK_f, stK_h, stK_b]
    exact Or.inr ⟨rfl, h2.ho, fun k hk => h2.bl hk⟩
  · obtain ⟨o1, o2, o3⟩ := stK_o (s := s) hq hr hrq
    rw [o1, o2, o3]
    exact o r hr
theorem CW.k {s : Sg} {q p : Nat} {w w2 : Wd} (h : CW s w) (hq : q < 2) (hp : p = 35 + 2 * q) (hm : Mo [p, p + 1] [] w w2) (h1 : w2.1 p 2 = nI 1) (h2 : w2.2 p 1 = lN (sHo s)) (h3 : ∀ k, k < 6 → w2.2 (p + 1) k = lN (sBl s k)) : CW (stK s q) w2 ∧ Mo allA [] w w2 := by
  obtain ⟨a, b, c, d, e, g, i, j⟩ := h
  have new : cS (stK s q) q p w2 := ⟨by rw [stK_f]; exact h1, fun _ => by rw [stK_h, stK_b]; exact ⟨h2, h3⟩⟩
  rcases (show q = 0 ∨ q = 1 by omega) with rfl | rfl
  · subst hp
    exact ⟨⟨a.mo hm (by decide), b.mo hm (by decide), c.mo hm (by decide), d.mo hm (by decide) (by decide), new, g.mo hm (by decide) (by decide) (by decide), i.mo hm (by decide) (by decide) (by decide), j.mo hm (by decide) (by decide)⟩, hm.mono (by decide) (fun _ c => absurd c List.not_mem_nil)⟩
  · subst hp
    exact ⟨⟨a.mo hm (by decide), b.mo hm (by decide), c.mo hm (by decide), d.mo hm (by decide) (by decide), e.mo hm (by decide) (by decide) (by decide), new, i.mo hm (by decide) (by decide) (by decide), j.mo hm (by decide) (by decide)⟩, hm.mono (by decide) (fun _ c => absurd c List.not_mem_nil)⟩
theorem MW.k {s : Sg} {q : Nat} {w w2 : Wd} (h : MW s w) (hq : q < 2) (hm : Mo [42, 43] [] w w2) (h1 : w2.1 43 q = nI 1) (h1' : ∀ r, r ≠ q → w2.1 43 r = w.1 43 r) (h2 : w2.2 42 (7 * q + 6) = lN (sHo s)) (h3 : ∀ k, k < 6 → w2.2 42 (7 * q + k) = lN (sBl s k)) (h4 : ∀ i, ¬ (7 * q ≤ i ∧ i < 7 * q + 7) → w2.2 42 i = w.2 42 i) : MW (stK s q) w2 ∧ Mo allB [] w w2 := by
  obtain ⟨a, b, c, d, e, g, i⟩ := h
  have e0 : sN (stK s q) = sN s := stK_1 (by omega) (by omega)
  have e1 : sM (stK s q) = sM s := stK_1 (by omega) (by omega)
  have e2 : sHo (stK s q) = sHo s := stK_1 (by omega) (by omega)
  have e3 : sHs (stK s q) = sHs s := stK_1 (by omega) (by omega)
  have e4 : sTl (stK s q) = sTl s := stK_1 (by omega) (by omega)
  have e5 : sSc (stK s q) = sSc s := stK_1 (by omega) (by omega)
  have e6 : sCc (stK s q) = sCc s := stK_1 (by omega) (by omega)
  have e8 : sSn (stK s q) = sSn s := stK_1 (by omega) (by omega)
  have r0 : sBl (stK s q) = sBl s := stK_2 (by omega)
  have r1 : sHh (stK s q) = sHh s := stK_2 (by omega)
  have r2 : sTx (stK s q) = sTx s := stK_2 (by omega)
  have r3 : sFs (stK s q) = sFs s := stK_2 (by omega)
  have hS : mS (stK s q) w2 := fun r hr => by
    by_cases hrq : r = q
    · subst hrq
      rw [stK_f, stK_h, stK_b]
      exact ⟨h1, fun _ => ⟨h2, h3⟩⟩
    · obtain ⟨o1, o2, o3⟩ := stK_o (s := s) hq hr hrq
      rw [o1, o2, o3, h1' r hrq]
      refine ⟨(e r hr).1, fun hf => ⟨?_, fun k hk => ?_⟩⟩
      · rw [h4 _ (by omega)]
        exact ((e r hr).2 hf).1
      · rw [h4 _ (by omega)]
        exact ((e r hr).2 hf).2 k hk
  refine ⟨⟨?_, ?_, ?_, ?_, hS, ?_, ?_⟩, hm.mono (by decide) (fun _ _ => Or.inr (by decide))⟩
  · unfold mG
    rw [e0, e1]
    exact a.mo hm (by decide) (by decide) (by decide) (by decide)
  · unfold mH
    rw [e2]
    exact b.mo hm (by decide) (by decide)
  · unfold mB
    rw [r0]
    exact c.mo hm (by decide)
  · unfold mY
    rw [e3, r1]
    exact d.mo hm (by decide) (by decide) (by decide)
  · unfold mF
    rw [e5, e6, e8, r3]
    exact g.mo hm (by decide) (by decide) (by decide)
  · unfold mT
    rw [e4, r2]
    exact i.mo hm (by decide) (by decide) (by decide)
theorem slF {x : Int32} {w : Wd} {K : Bool → Wd → Prop} (h : rng 0 1 x = false) (h2 : K false w) : RunZ 1 M_A_isSlot [.int x] w K := by
  refine r_A_isSlot ⟨fun c => ?_, fun _ => ⟨fun _ => h2, fun c => ?_⟩⟩
  · subst c
    exact absurd h (by decide)
  · subst c
    exact absurd h (by decide)
theorem slT {q : Nat} {w : Wd} {K : Bool → Wd → Prop} (h : q < 2) (h2 : K true w) : RunZ 1 M_A_isSlot [.int (nI q)] w K := by
  rcases (show q = 0 ∨ q = 1 by omega) with rfl | rfl
  · exact r_A_isSlot ⟨fun _ => h2, fun c => absurd rfl c⟩
  · exact r_A_isSlot ⟨fun c => absurd c (by decide), fun _ => ⟨fun c => absurd rfl c, fun _ => h2⟩⟩
theorem sl0 {w : Wd} {K : Nat → Wd → Prop} (h : K 35 w) : RunP 1 M_A_slotAt [.ref 0, .int (nI 0)] w K := r_A_slotAt ⟨fun c => absurd rfl c, fun _ => h⟩
theorem sl1 {w : Wd} {K : Nat → Wd → Prop} (h : K 37 w) : RunP 1 M_A_slotAt [.ref 0, .int (nI 1)] w K := r_A_slotAt ⟨fun _ => h, fun c => absurd c (by decide)⟩
theorem p35 {A B : Prop} (h : A) : ((35 : Nat) = 35 ∨ (35 : Nat) = 37) ∧ ((35 : Nat) = 35 → A) ∧ ((35 : Nat) = 37 → B) := ⟨Or.inl rfl, fun _ => h, fun c => absurd c (by decide)⟩
theorem p37 {A B : Prop} (h : B) : ((37 : Nat) = 35 ∨ (37 : Nat) = 37) ∧ ((37 : Nat) = 35 → A) ∧ ((37 : Nat) = 37 → B) := ⟨Or.inr rfl, fun c => absurd c (by decide), fun _ => h⟩
theorem u_keep {s : Sg} {q : Nat} {w0 : Wd} (hs : WF s) (hM : MW s w0) (hq : q < 2) :
    E 1 M_B_keep 14 [(0, .ref 39), (1, .int (nI q)), (2, .int (nI 0))] [] w0 (qI 1 (fun r w2 => r = nI (usN s 6) ∧ MW (stK s q) w2 ∧ Mo allB [] w0 w2)) := by
  have key : ∀ j k w, k + j = 6 → Mo [42, 43] [] w0 w → w.1 = w0.1 → (∀ i, i < k → w.2 42 (7 * q + i) = lN (sBl s i)) → (∀ i, ¬ (7 * q ≤ i ∧ i < 7 * q + 7) → w.2 42 i = w0.2 42 i) → E 1 M_B_keep 14 [(0, .ref 39), (1, .int (nI q)), (2, .int (nI k))] [] w (qI 1 (fun r w2 => r = nI (usN s 6) ∧ MW (stK s q) w2 ∧ Mo allB [] w0 w2)) := by
    intro j
    induction j with
    | zero =>
      intro k w hk hm h1 hd ho
      refine w_B_keep_14 (pk_le 6 k (fun _ => ?_) (fun c => by omega))
      rw [show (7 : Int32) = nI 7 from rfl, i6, pk_mul, nI_add, nI_clamp (by omega), nI_clamp (by omega), (hm.sl 3 (by decide) (by decide)).2, hM.2.1]
      refine ⟨vp_in_nI (by omega) (by decide), fun w1 e1 => ⟨vp_in_nI (by omega) (by decide), fun w2 e2 => ?_⟩⟩
      rw [show vp_nar .boolean 1 = nI 1 from rfl] at e2
      have hm2 : Mo [42, 43] [] w0 w2 := by rw [e2, e1]; exact (hm.upL _ (Or.inl (by decide))).upI _ (Or.inl (by decide))
      refine u_used hs (hM.2.2.1.mo hm2 (by decide)) ⟨rfl, hM.k hq hm2 ?_ (fun r hr => ?_) ?_ (fun i hi => ?_) (fun i hi => ?_)⟩
      · rw [e2, upI_eq]
      · rw [e2, upI_ne (by omega), e1, upL_1, h1]
      · rw [e2, upI_2, e1, upL_eq]
      · rw [e2, upI_2, e1, upL_ne (by omega)]
        exact hd i (by omega)
      · rw [e2, upI_2, e1, upL_ne (by omega)]
        exact ho i hi
    | succ j ih =>
      intro k w hk hm h1 hd ho
      refine w_B_keep_14 (pk_le 6 k (fun c => by omega) (fun c => ?_))
      rw [show (7 : Int32) = nI 7 from rfl, pk_mul, nI_add, nI_clamp (by omega), nI_clamp (by omega), (hm.pl 40 (by decide) (by decide)).2, hM.2.2.1 k (by omega)]
      refine ⟨vp_in_nI (by omega) (by decide), vp_in_nI (by omega) (by decide), fun w1 e1 a2 e2 => ?_⟩
      rw [i1, nI_add] at e2
      subst e2
      refine ih (k + 1) w1 (by omega) (by rw [e1]; exact hm.upL _ (Or.inl (by decide))) (by rw [e1]; exact h1) (fun i hi => ?_) (fun i hi => ?_)
      · rcases Nat.lt_or_ge i k with h2 | h2
        · rw [e1, upL_ne (by omega)]; exact hd i h2
        · have : i = k := by omega
          subst this
          rw [e1, upL_eq]
      · rw [e1, upL_ne (by omega)]
        exact ho i hi
  exact key 6 0 w0 (by decide) (Mo.rf _ _ _) rfl (fun i hi => absurd hi (Nat.not_lt_zero i)) (fun i _ => rfl)
theorem op_keep : Op_keep INV := by
  rintro a1 w ⟨s, hs⟩
  have hC := hs.2.1
  rcases rg_or 0 1 (by decide) (by decide) a1 with h1 | ⟨q, -, hq, rfl⟩
  · exact glueI (val := -1) (nx := s) hs (r_A_keep (slF h1 (zf' (sameA hC)))) (fun w1 hM => r_B_keep (u_inF rfl rfl rfl h1 (zf' (sameB hM)))) hs.1
  have hq2 : q < 2 := by omega
  refine glueI (val := nI (usN s 6)) (nx := stK s q) hs (r_A_keep (slT hq2 (zt' ?_))) (fun w1 hM => r_B_keep (u_inT rfl rfl rfl (Nat.zero_le q) hq (by decide) (zt' (u_keep hs.1 hM hq2)))) (hs.1.k hq2)
  have fin : ∀ p, p = 35 + 2 * q → ∀ w5, w5 = upI (upL (cpL w 10 (p + 1) 0 0 6) p 1 (lN (sHo s))) p 2 1 → RunI 1 M_A_filledBlocks [.ref 0] w5 (fun r w1 => r = nI (usN s 6) ∧ CW (stK s q) w1 ∧ Mo allA [] w w1) := by
    intro p hp w5 e5
    have hm : Mo [p, p + 1] [] w w5 := by
      rw [e5]
      exact (((Mo.rf _ _ w).cp _ _ _ (by simp)).upL _ (Or.inl (by simp))).upI _ (Or.inl (by simp))
    refine t_filled hs.1 (hC.2.2.1.mo hm (by simp; omega)) ⟨rfl, hC.k hq2 hp hm ?_ ?_ (fun k hk => ?_)⟩
    · rw [e5, upI_eq]; rfl
    · rw [e5, upI_2, upL_eq]
    · rw [e5, upI_2, upL_ne (by omega), cpL_in (Nat.zero_le _) (by omega), Nat.zero_add]
      exact hC.2.2.1 k hk
  rcases (show q = 0 ∨ q = 1 by omega) with rfl | rfl
  · refine sl0 (p35 ?_)
    refine r_S_fill (qs := 36) rfl (by decide) rfl rfl (by decide) ⟨by decide, fun w1 e1 w2 e2 w3 e3 => fin 35 rfl w3 ?_⟩
    rw [e3, e2, e1, hC.2.1]
    rfl
  · refine sl1 (p37 ?_)
    refine r_S_fill (qs := 38) rfl (by decide) rfl rfl (by decide) ⟨by decide, fun w1 e1 w2 e2 w3 e3 => fin 37 rfl w3 ?_⟩
    rw [e3, e2, e1, hC.2.1]
    rfl
