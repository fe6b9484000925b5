theorem op_normal : Op_normal INV := by
  rintro a1 w ⟨s, hs⟩
  have hC := hs.2.1
  have h40 := pow40 hs.1.1.2.2
  rcases rg_or 0 5 (by decide) (by decide) a1 with h1 | ⟨k, -, hk, rfl⟩
  · exact glueL (val := -1) (nx := s) hs (r_A_normal (t_blF h1 (zf' ⟨rfl, hC, Mo.rf _ _ _⟩))) (fun w1 hM => r_B_normal (u_blF h1 (zf' ⟨rfl, hM, Mo.rf _ _ _⟩))) hs.1
  have hk6 : k < 6 := by omega
  have hb := hs.1.bl hk6
  by_cases h0 : sBl s k = 0
  · refine glueL (val := -4) (nx := s) hs (r_A_normal (t_blT hk6 (zt' ⟨vp_in_nI hk6 (by decide), ?_⟩))) (fun w1 hM => r_B_normal (u_blT hk6 (zt' ⟨vp_in_nI hk6 (by decide), ?_⟩))) hs.1
    · rw [nI_clamp (by omega), hC.2.2.1 k hk6, lN_0 (by omega)]
      exact ⟨fun c => absurd h0 c, fun _ => ⟨rfl, hC, Mo.rf _ _ _⟩⟩
    · rw [nI_clamp (by omega), hM.2.2.1 k hk6, lN_0 (by omega)]
      exact ⟨fun c => absurd h0 c, fun _ => ⟨rfl, hM, Mo.rf _ _ _⟩⟩
  · refine glueL (val := lN (nfS (sN s) (sM s) (sBl s k))) (nx := s) hs (r_A_normal (t_blT hk6 (zt' ⟨vp_in_nI hk6 (by decide), ?_⟩))) (fun w1 hM => r_B_normal (u_blT hk6 (zt' ⟨vp_in_nI hk6 (by decide), ?_⟩))) hs.1
    · rw [nI_clamp (by omega), hC.2.2.1 k hk6, lN_0 (by omega)]
      exact ⟨fun _ => ⟨vp_in_nI hk6 (by decide), t_least hC.1 hb ⟨rfl, hC, Mo.rf _ _ _⟩⟩, fun c => absurd c h0⟩
    · rw [nI_clamp (by omega), hM.2.2.1 k hk6, lN_0 (by omega)]
      exact ⟨fun _ => ⟨vp_in_nI hk6 (by decide), u_normal hM.1.1 hb ⟨rfl, hM, Mo.rf _ _ _⟩⟩, fun c => absurd c h0⟩
theorem u_stab_l {s : Sg} {k : Nat} {w : Wd} {K : Int32 → Wd → Prop} (hs : WF s) (hM : MW s w) (hk : k < 6) (h : K (nI (fixS (sN s) (sM s) (sBl s k))) w) :
    ∀ j g, g + j = sN s * sM s → E 1 M_B_stabilizer 27 [(0, .ref 39), (1, .int (nI k)), (2, .int (nI (fb_ct (fun g => decide (trS (sN s) (sM s) (sBl s k) g = sBl s k)) g))), (3, .int (nI g))] [] w (qI 1 K) := by
  have ok := hs.1
  have hv := ok.2.2
  have h40 := pow40 hv
  have hb := hs.bl hk
  intro j
  induction j with
  | zero =>
    intro g hg
    refine w_B_stabilizer_27 ?_
    rw [hM.1.1.2.2.2]
    refine pk_le (sN s * sM s) g (fun _ => ?_) (fun c => by omega)
    rw [show g = sN s * sM s by omega]
    exact h
  | succ j ih =>
    intro g hg
    have h1 := trS_lt ok (sBl s k) g
    refine w_B_stabilizer_27 ?_
    rw [hM.1.1.2.2.2, nI_clamp (by omega), hM.2.2.1 k hk]
    refine pk_le (sN s * sM s) g (fun c => by omega) (fun c => ⟨vp_in_nI hk (by decide), u_translate hM.1.1 (by omega) (by omega) ⟨vp_in_nI hk (by decide), ?_⟩⟩)
    rw [hM.2.2.1 k hk, show imS (fun x => gA (sN s) (sM s) x g) (sBl s k) (sN s * sM s) = trS (sN s) (sM s) (sBl s k) g from rfl, fb_lN_inj (by omega) (by omega)]
    have ih1 := ih (g + 1) (by omega)
    rw [fb_ct_succ] at ih1
    refine ⟨fun c1 a3 e3 a4 e4 => ?_, fun c1 a3 e3 a4 e4 => ?_⟩
    · rw [i1, nI_add] at e4
      rw [i0, nI_add, Nat.add_zero] at e3
      subst e3
      subst e4
      rw [if_neg (by simpa using c1), Nat.add_zero] at ih1
      exact ih1
    · rw [i1, nI_add] at e3 e4
      subst e3
      subst e4
      rw [if_pos (decide_eq_true c1)] at ih1
      exact ih1
theorem op_stabilizer : Op_stabilizer INV := by
  rintro a1 w ⟨s, hs⟩
  have hC := hs.2.1
  have h40 := pow40 hs.1.1.2.2
  rcases rg_or 0 5 (by decide) (by decide) a1 with h1 | ⟨k, -, hk, rfl⟩
  · exact glueI (val := -1) (nx := s) hs (r_A_stabilizer (t_blF h1 (zf' ⟨rfl, hC, Mo.rf _ _ _⟩))) (fun w1 hM => r_B_stabilizer (u_blF h1 (zf' ⟨rfl, hM, Mo.rf _ _ _⟩))) hs.1
  have hk6 : k < 6 := by omega
  have hb := hs.1.bl hk6
  by_cases h0 : sBl s k = 0
  · refine glueI (val := -4) (nx := s) hs (r_A_stabilizer (t_blT hk6 (zt' ⟨vp_in_nI hk6 (by decide), ?_⟩))) (fun w1 hM => r_B_stabilizer (u_blT hk6 (zt' ⟨vp_in_nI hk6 (by decide), ?_⟩))) hs.1
    · rw [nI_clamp (by omega), hC.2.2.1 k hk6, lN_0 (by omega)]
      exact ⟨fun c => absurd h0 c, fun _ => ⟨rfl, hC, Mo.rf _ _ _⟩⟩
    · rw [nI_clamp (by omega), hM.2.2.1 k hk6, lN_0 (by omega)]
      exact ⟨fun c => absurd h0 c, fun _ => ⟨rfl, hM, Mo.rf _ _ _⟩⟩
  · refine glueI (val := nI (fixS (sN s) (sM s) (sBl s k))) (nx := s) hs (r_A_stabilizer (t_blT hk6 (zt' ⟨vp_in_nI hk6 (by decide), ?_⟩))) (fun w1 hM => r_B_stabilizer (u_blT hk6 (zt' ⟨vp_in_nI hk6 (by decide), ?_⟩))) hs.1
    · rw [nI_clamp (by omega), hC.2.2.1 k hk6, lN_0 (by omega)]
      exact ⟨fun _ => ⟨vp_in_nI hk6 (by decide), t_fixing hC.1 hb ⟨rfl, hC, Mo.rf _ _ _⟩⟩, fun c => absurd c h0⟩
    · rw [nI_clamp (by omega), hM.2.2.1 k hk6, lN_0 (by omega)]
      exact ⟨fun _ => u_stab_l hs.1 hM hk6 ⟨rfl, hM, Mo.rf _ _ _⟩ (sN s * sM s) 0 (by omega), fun c => absurd c h0⟩
/-- states that differ in a few numbers -/
theorem st1_ne {s : Sg} {i v j : Nat} (h : j ≠ i) : (st1 s i v).1 j = s.1 j := if_neg h
theorem st2_ne {s : Sg} {i j : Nat} {f : Nat → Nat} (h : j ≠ i) : (st2 s i f).2 j = s.2 j := if_neg h
theorem op_clearText : Op_clearText INV := by
  rintro w ⟨s, hs⟩
  have hC := hs.2.1
  have hw := hs.1
  refine glueI (val := nI (sTl s)) (nx := st1 s 4 0) hs (r_A_clearText (fun a1 e1 w2 e2 => ⟨by rw [e1]; exact hC.2.2.2.2.2.2.2.1, ?_, ?_⟩)) (fun w1 hM => r_B_clearText (fun a1 e1 w2 e2 => ⟨by rw [e1]; exact hM.2.2.2.2.2.2.1, ?_, ?_⟩)) ?_
  · have hm : Mo [32] [] w w2 := by rw [e2]; exact (Mo.rf _ _ w).upI _ (Or.inl (by decide))
    obtain ⟨a, b, c, d, e, f, g, i⟩ := hC
    exact ⟨a.mo hm (by decide), b.mo hm (by decide), c.mo hm (by decide), d.mo hm (by decide) (by decide), e.mo hm (by decide) (by decide) (by decide), f.mo hm (by decide) (by decide) (by decide), g.mo hm (by decide) (by decide) (by decide), by rw [e2, upI_eq]; rfl, fun q hq => absurd hq (Nat.not_lt_zero q)⟩
  · rw [e2]
    exact (Mo.rf _ _ w).upI _ (Or.inl (by decide))
  · have hm : Mo [] [10] w1 w2 := by rw [e2]; exact (Mo.rf _ _ w1).upI _ (Or.inr (by decide))
    obtain ⟨a, b, c, d, e, f, g⟩ := hM
    exact ⟨a.mo hm (by decide) (by decide) (by decide) (by decide), b.mo hm (by decide) (by decide), c.mo hm (by decide), d.mo hm (by decide) (by decide) (by decide), (e.mo hm (by decide) (by decide)).eq (fun q hq => ⟨st1_ne (by omega), st1_ne (by omega), rfl⟩), f.mo hm (by decide) (by decide) (by decide), by rw [e2, upI_eq]; rfl, fun q hq => absurd hq (Nat.not_lt_zero q)⟩
  · rw [e2]
    exact (Mo.rf _ _ w1).upI _ (Or.inl (by decide))
  · obtain ⟨a, b, c, d, e, f1, g, i, j, k, l, m, n, o⟩ := hw
    exact ⟨a, b, c, Nat.zero_le _, e, f1, g, i, j, k, l, fun q hq => absurd hq (Nat.not_lt_zero q), n, wS.eq (s := s) o (fun q hq => ⟨st1_ne (by omega), st1_ne (by omega), rfl⟩) rfl rfl⟩
theorem i160 : (160 : Int32) = nI 160 := rfl
theorem chr_nI {c : Nat} (h : c < 65536) : vp_nar .char ((nI c).toUInt32 % 65536).toInt32 = nI c := by
  rw [pk_vc, pk_char, pk_tn (by omega), Nat.mod_eq_of_lt h]
theorem op_append : Op_append INV := by
  rintro a1 w ⟨s, hs⟩
  have hC := hs.2.1
  have hw := hs.1
  rcases rg_or 32 126 (by decide) (by decide) a1 with h1 | ⟨c, hc1, hc2, rfl⟩
  · exact glueI (val := -1) (nx := s) hs (r_A_append (t_wiF rfl rfl h1 (zf' (sameA hC)))) (fun w1 hM => r_B_append (u_inF rfl rfl rfl h1 (zf' (sameB hM)))) hs.1
  have htl : sTl s ≤ 160 := hw.2.2.2.1
  have eC := hC.2.2.2.2.2.2.2.1
  by_cases hf : sTl s = 160
  · refine glueI (val := -2) (nx := s) hs (r_A_append (t_wiT rfl rfl hc1 hc2 (by decide) (zt' ?_))) (fun w1 hM => r_B_append (u_inT rfl rfl rfl hc1 hc2 (by decide) (zt' ?_))) hs.1
    · rw [eC]
      exact pk_lt (sTl s) 160 (fun c => by omega) (fun _ => sameA hC)
    · rw [hM.2.2.2.2.2.2.1, and_comm]
      exact pk_eq (sTl s) 160 (fun _ => sameB hM) (fun c => absurd hf c)
  · refine glueI (val := nI (sTl s + 1)) (nx := st2 (st1 s 4 (sTl s + 1)) 2 (fun i => if i = sTl s then c else sTx s i)) hs (r_A_append (t_wiT rfl rfl hc1 hc2 (by decide) (zt' ?_))) (fun w1 hM => r_B_append (u_inT rfl rfl rfl hc1 hc2 (by decide) (zt' ?_))) ?_
    · rw [eC]
      refine pk_lt (sTl s) 160 (fun _ => ⟨vp_in_nI (by omega) (by decide), fun w3 e3 w4 e4 => ?_⟩) (fun c => by omega)
      rw [nI_clamp (by omega), chr_nI (by omega)] at e3
      have q3 : w3.1 32 3 = nI (sTl s) := by rw [e3, upI_ne (by omega)]; exact eC
      rw [q3, i1, nI_add] at e4
      have hm : Mo [32, 33] [] w w4 := by rw [e4, e3]; exact ((Mo.rf _ _ w).upI _ (Or.inl (by decide))).upI _ (Or.inl (by decide))
      refine ⟨by rw [e4, upI_eq], ?_, hm.mono (by decide) (fun _ c => absurd c List.not_mem_nil)⟩
      obtain ⟨a, b, c, d, e, f, g, i⟩ := hC
      refine ⟨a.mo hm (by decide), b.mo hm (by decide), c.mo hm (by decide), d.mo hm (by decide) (by decide), e.mo hm (by decide) (by decide) (by decide), f.mo hm (by decide) (by decide) (by decide), g.mo hm (by decide) (by decide) (by decide), by rw [e4, upI_eq]; rfl, fun q hq => ?_⟩
      have hq2 : q < sTl s + 1 := hq
      show w4.1 33 q = nI (if q = sTl s then _ else sTx s q)
      by_cases e5 : q = sTl s
      · rw [if_pos e5, e4, upI_ne (by omega), e3, e5, upI_eq]
      · rw [if_neg e5, e4, upI_ne (by omega), e3, upI_ne (by omega)]
        exact i.2 q (by omega)
    · have eM := hM.2.2.2.2.2.2.1
      rw [eM, and_comm]
      refine pk_eq (sTl s) 160 (fun c => absurd c hf) (fun _ => ⟨vp_in_nI (by omega) (by decide), fun w3 e3 w4 e4 => ?_⟩)
      rw [nI_clamp (by omega)] at e3
      have q3 : w3.1 39 10 = nI (sTl s) := by rw [e3, upI_ne (by omega)]; exact eM
      rw [q3, i1, nI_add] at e4
      have hm : Mo [44] [10] w1 w4 := by rw [e4, e3]; exact ((Mo.rf _ _ w1).upI _ (Or.inl (by decide))).upI _ (Or.inr (by decide))
      refine ⟨by rw [e4, upI_eq], ?_, hm.mono (by decide) (fun _ _ => Or.inr (by decide))⟩
      obtain ⟨a, b, c, d, e, f, g⟩ := hM
      refine ⟨a.mo hm (by decide) (by decide) (by decide) (by decide), b.mo hm (by decide) (by decide), c.mo hm (by decide), d.mo hm (by decide) (by decide) (by decide), (e.mo hm (by decide) (by decide)).eq (fun q hq => ⟨st1_ne (by omega), st1_ne (by omega), st2_ne (by omega)⟩), f.mo hm (by decide) (by decide) (by decide), by rw [e4, upI_eq]; rfl, fun q hq => ?_⟩
      have hq2 : q < sTl s + 1 := hq
      show w4.1 44 q = nI (if q = sTl s then _ else sTx s q)
      by_cases e5 : q = sTl s
      · rw [if_pos e5, e4, upI_ne (by omega), e3, e5, upI_eq]
      · rw [if_neg e5, e4, upI_ne (by omega), e3, upI_ne (by omega)]
        exact g.2 q (by omega)
    · obtain ⟨a, b, c3, d, e, f1, g, i, j, k, l, m, n, o⟩ := hw
      refine ⟨a, b, c3, by show sTl s + 1 ≤ 160; omega, e, f1, g, i, j, k, l, fun q hq => ?_, n, wS.eq (s := s) o (fun q hq => ⟨st1_ne (by omega), st1_ne (by omega), st2_ne (by omega)⟩) rfl rfl⟩
      have hq2 : q < sTl s + 1 := hq
      show 32 ≤ (if q = sTl s then _ else sTx s q) ∧ (if q = sTl s then _ else sTx s q) ≤ 126
      by_cases e5 : q = sTl s
      · rw [if_pos e5]
        exact ⟨hc1, hc2⟩
      · rw [if_neg e5]
        exact m q (by omega)
