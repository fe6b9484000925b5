/-- the state behind a change of the group -/
def stG (s : Sg) (n m : Nat) : Sg := (fun j => if j = 0 then n else if j = 1 then m else if j = 2 then 1 else if j = 4 then sTl s else 0, fun j => if j = 0 then (fun _ => 0) else s.2 j)
theorem stG_0 {s : Sg} {n m j : Nat} (h : 5 ≤ j) : (stG s n m).1 j = 0 := by
  show (if j = 0 then n else if j = 1 then m else if j = 2 then 1 else if j = 4 then sTl s else 0) = 0
  rw [if_neg (by omega), if_neg (by omega), if_neg (by omega), if_neg (by omega)]
theorem WF.gr {s : Sg} (h : WF s) {n m : Nat} (ok : GOK n m) : WF (stG s n m) := by
  obtain ⟨a, b, c, d, e, f1, g, i, j, k, l, m1, n1, o⟩ := h
  refine ⟨ok, Nat.one_lt_two_pow (by have := ok.v0; show n * m ≠ 0; omega), Nat.zero_le _, d, (by decide : 0 < 2 ^ 20), (by decide : 0 < 2 ^ 20), (by decide : 0 < 2 ^ 20), (by decide : 0 ≤ 4), ⟨fun _ => rfl, fun _ => rfl⟩, fun _ _ => Nat.two_pow_pos _, fun q hq => absurd hq (Nat.not_lt_zero q), m1, fun c => absurd c (Nat.lt_irrefl 0), fun q _ => Or.inl (stG_0 (by omega))⟩
theorem t_fillL {f p0 n0 : Nat} {x : Int64} {w0 : Wd} {K : Wd → Prop} (hk0 : kd p0 = .inl (1, n0)) (hp0 : p0 < Nf f) (hn : n0 < 2 ^ 30) (h : ∀ w, OnL p0 w0 w → (∀ d, d < n0 → w.2 p0 d = x) → K w) : RunV f M_J_fillL [.ref p0, .long x] w0 K := by
  have key : ∀ j k w, k + j = n0 → OnL p0 w0 w → (∀ d, d < k → w.2 p0 d = x) → E f M_J_fillL 6 [(0, .ref p0), (1, .long x), (3, .int (nI k)), (4, .int (nI n0))] [] w (qV f K) := by
    intro j
    induction j with
    | zero =>
      intro k w hk hm hd
      refine w_J_fillL_6 hk0 hp0 (pk_le n0 k (fun _ => h w hm (fun d hd2 => hd d (by omega))) (fun c => by omega))
    | succ j ih =>
      intro k w hk hm hd
      refine w_J_fillL_6 hk0 hp0 (pk_le n0 k (fun c => by omega) (fun _ => ⟨vp_in_nI (by omega) (by omega), fun w1 e1 a2 e2 => ?_⟩))
      rw [nI_clamp (by omega)] at e1
      rw [i1, nI_add] at e2
      subst e2
      refine ih (k + 1) w1 (by omega) (by rw [e1]; exact hm.up _ _) (fun d hd2 => ?_)
      by_cases e : d = k
      · rw [e1, e, upL_eq]
      · rw [e1, upL_ne (by omega)]
        exact hd d (by omega)
  refine r_J_fillL hk0 hp0 (fun a1 e1 => ?_)
  subst e1
  exact key n0 0 w0 (by omega) (OnL.rf _ _) (fun d hd => absurd hd (Nat.not_lt_zero d))
theorem u_grp {s : Sg} {n m : Nat} {a5 : Int32} {w1 w0 : Wd} (hM : MW s w1) (hB : Bg n m w0) (hm0 : Mo [40] [0, 1, 2, 3] w1 w0) (h3 : w0.2 39 3 = lN 1) :
    ∀ j k w, k + j = 6 → Mo [40] [] w0 w → (∀ q, q < k → w.2 40 q = lN 0) → E 1 M_B_setGroup 66 [(0, .ref 39), (3, .int a5), (4, .int (nI k))] [] w (qI 1 (fun r w2 => r = a5 ∧ MW (stG s n m) w2 ∧ Mo allB [] w1 w2)) := by
  intro j
  induction j with
  | zero =>
    intro k w hk hm hd
    refine w_B_setGroup_66 (pk_le 6 k (fun _ wa ea wb eb wc ec wd ed => ⟨vp_in_nI (n := 0) (by decide) (by decide), fun we ee => ⟨vp_in_nI (n := 1) (by decide) (by decide), fun wf ef => ?_⟩⟩) (fun c => by omega))
    have hmf : Mo [40, 43] [6, 14, 15, 16] w0 wf := by
      rw [ef, ee, ed, ec, eb, ea]
      exact (((((((hm.mono (by decide) (fun _ c => absurd c List.not_mem_nil)).upI _ (Or.inr (by decide))).upI _ (Or.inr (by decide))).upI _ (Or.inr (by decide))).upI _ (Or.inr (by decide))).upI _ (Or.inl (by decide))).upI _ (Or.inl (by decide)))
    have hBf : Bg n m wf := ⟨hB.1, by rw [(hmf.sl 0 (by decide) (by decide)).1]; exact hB.2.1, by rw [(hmf.sl 1 (by decide) (by decide)).1]; exact hB.2.2.1, by rw [(hmf.sl 2 (by decide) (by decide)).1]; exact hB.2.2.2⟩
    refine u_find hBf (fun w7 h7 hA => ⟨rfl, ?_, ?_⟩)
    · have m7 := h7.mob
      have all : Mo [40, 43, 45, 46] [0, 1, 2, 3, 6, 11, 14, 15, 16] w1 w7 := ((hm0.mono (by decide) (by decide)).tr (hmf.mono (by decide) (by decide))).tr (m7.mono (by decide) (by decide))
      obtain ⟨a, b, c, d, e, f, g⟩ := hM
      have s6 : wf.1 39 6 = 0 := by rw [ef, upI_ne (by decide), ee, upI_ne (by decide), ed, upI_ne (by decide), ec, upI_ne (by decide), eb, upI_ne (by decide), ea, upI_eq]
      have s14 : wf.1 39 14 = 0 := by rw [ef, upI_ne (by decide), ee, upI_ne (by decide), ed, upI_ne (by decide), ec, upI_ne (by decide), eb, upI_eq]
      have s15 : wf.1 39 15 = 0 := by rw [ef, upI_ne (by decide), ee, upI_ne (by decide), ed, upI_ne (by decide), ec, upI_eq]
      have s16 : wf.1 39 16 = 0 := by rw [ef, upI_ne (by decide), ee, upI_ne (by decide), ed, upI_eq]
      have s0 : wf.1 43 0 = 0 := by rw [ef, upI_ne (by decide), ee]; exact upI_eq _ _ _ _
      have s1 : wf.1 43 1 = 0 := by rw [ef]; exact upI_eq _ _ _ _
      have k43 := m7.pl 43 (by decide) (by decide)
      have k40 := m7.pl 40 (by decide) (by decide)
      have k44 := all.pl 44 (by decide) (by decide)
      refine ⟨⟨⟨hB.1, ?_, ?_, ?_⟩, hA⟩, ?_, fun q hq => ?_, ⟨?_, fun q hq => absurd hq (Nat.not_lt_zero q)⟩, fun q hq => ?_, ⟨?_, ?_, ?_, fun q hq => absurd hq (Nat.not_lt_zero q)⟩, ⟨?_, fun q hq => ?_⟩⟩
      · rw [(m7.sl 0 (by decide) (by decide)).1]; exact hBf.2.1
      · rw [(m7.sl 1 (by decide) (by decide)).1]; exact hBf.2.2.1
      · rw [(m7.sl 2 (by decide) (by decide)).1]; exact hBf.2.2.2
      · show w7.2 39 3 = lN 1
        rw [(m7.sl 3 (by decide) (by decide)).2, (hmf.sl 3 (by decide) (by decide)).2]; exact h3
      · show w7.2 40 q = lN 0
        rw [k40.2, ef, upI_2, ee, upI_2, ed, upI_2, ec, upI_2, eb, upI_2, ea, upI_2]
        exact hd q (by omega)
      · show w7.1 39 6 = nI 0
        rw [(m7.sl 6 (by decide) (by decide)).1]; exact s6
      · have e0 : sFi (stG s n m) q = 0 := stG_0 (by omega)
        rw [e0, k43.1]
        refine ⟨?_, fun c => absurd c (by decide)⟩
        rcases (show q = 0 ∨ q = 1 by omega) with rfl | rfl
        · exact s0
        · exact s1
      · show w7.1 39 15 = nI 0
        rw [(m7.sl 15 (by decide) (by decide)).1]; exact s15
      · show w7.1 39 14 = nI 0
        rw [(m7.sl 14 (by decide) (by decide)).1]; exact s14
      · show w7.1 39 16 = nI 0
        rw [(m7.sl 16 (by decide) (by decide)).1]; exact s16
      · show w7.1 39 10 = nI (sTl s)
        rw [(all.sl 10 (by decide) (by decide)).1]; exact g.1
      · rw [k44.1]
        exact g.2 q hq
    · exact ((hm0.mono (by decide) (fun _ _ => Or.inr (by decide))).tr (hmf.mono (by decide) (fun _ _ => Or.inr (by decide)))).tr (h7.mob.mono (by decide) (fun _ _ => Or.inr (by decide)))
  | succ j ih =>
    intro k w hk hm hd
    refine w_B_setGroup_66 (pk_le 6 k (fun c => by omega) (fun _ => ⟨vp_in_nI (by omega) (by decide), fun w2 e2 a3 e3 => ?_⟩))
    rw [nI_clamp (by omega)] at e2
    rw [i1, nI_add] at e3
    subst e3
    refine ih (k + 1) w2 (by omega) (by rw [e2]; exact hm.upL _ (Or.inl (by decide))) (fun q hq => ?_)
    by_cases e : q = k
    · rw [e2, e, upL_eq]; rfl
    · rw [e2, upL_ne (by omega)]
      exact hd q (by omega)
theorem t_grp {s : Sg} {n m : Nat} {w w4 : Wd} {K : Int32 → Wd → Prop} {r : Int32} (hC : CW s w) (hG : Gd n m w4) (hch : ChG w w4) (h : ∀ w', CW (stG s n m) w' → Mo allA [] w w' → K r w') : ∀ w5 : Wd, w5 = upL w4 0 12 1 → RunV 1 M_J_fillL [.ref 10, .long 0] w5 (fun w6 => RunV 1 M_H_forget [.ref 11] w6 (fun w7 => RunV 1 M_N_forget [.ref 24] w7 (fun w8 => ∀ w9 : Wd, w9 = upI w8 35 2 0 → ∀ w10 : Wd, w10 = upI w9 37 2 0 → K r w10))) := by
  intro w5 e5
  refine t_fillL rfl (by decide) (by decide) (fun w6 h6 d6 => r_H_forget (fun w7 e7 => r_N_forget (fun wa ea wb eb wc ec w9 e9 w10 e10 => ?_)))
  have m6 : Mo [0, 10, 11, 24, 35, 37] [] w4 w6 := by
    refine Mo.tr (w1 := w5) ?_ (h6.mo.mono (by decide) (fun _ c => absurd c List.not_mem_nil))
    rw [e5]
    exact (Mo.rf _ _ w4).upL _ (Or.inl (by decide))
  have m10 : Mo [0, 10, 11, 24, 35, 37] [] w4 w10 := by
    rw [e10, e9, ec, eb, ea, e7]
    exact (((((m6.upI _ (Or.inl (by decide))).upI _ (Or.inl (by decide))).upI _ (Or.inl (by decide))).upI _ (Or.inl (by decide))).upI _ (Or.inl (by decide))).upI _ (Or.inl (by decide))
  have l10 : w10.2 = w6.2 := by rw [e10, e9, ec, eb, ea, e7]; rfl
  have all : Mo [0, 1, 2, 3, 4, 5, 6, 7, 10, 11, 24, 35, 37] [] w w10 := (hch.mo.mono (by decide) (fun _ c => absurd c List.not_mem_nil)).tr (m10.mono (by decide) (fun _ c => absurd c List.not_mem_nil))
  have k24 : w10.1 24 8 = 0 ∧ w10.1 24 9 = 0 ∧ w10.1 24 10 = 0 := by
    refine ⟨?_, ?_, ?_⟩
    · rw [e10, upI_ne (by decide), e9, upI_ne (by decide), ec, upI_ne (by decide), eb, upI_ne (by decide), ea, upI_eq]
    · rw [e10, upI_ne (by decide), e9, upI_ne (by decide), ec, upI_ne (by decide), eb, upI_eq]
    · rw [e10, upI_ne (by decide), e9, upI_ne (by decide), ec, upI_eq]
  obtain ⟨a, b, c, d, e, g, i, j⟩ := hC
  refine h w10 ⟨hG.mo m10 (by decide), ?_, fun q hq => ?_, ⟨?_, fun q hq => absurd hq (Nat.not_lt_zero q)⟩, ⟨?_, fun c => absurd (show (0 : Nat) = 1 from c) (by decide)⟩, ⟨?_, fun c => absurd (show (0 : Nat) = 1 from c) (by decide)⟩, ⟨k24.1, k24.2.1, k24.2.2, fun c => absurd c (Nat.lt_irrefl 0), fun x hx => ?_⟩, ⟨?_, fun q hq => ?_⟩⟩ (all.mono (by decide) (fun _ c => absurd c List.not_mem_nil))
  · show w10.2 0 12 = lN 1
    rw [l10, h6.1 0 (by decide), e5]
    exact upL_eq _ _ _ _
  · rw [l10]
    exact d6 q hq
  · show w10.1 11 1 = nI 0
    rw [e10, upI_ne (by decide), e9, upI_ne (by decide), ec, upI_ne (by decide), eb, upI_ne (by decide), ea, upI_ne (by decide), e7, upI_eq]
    rfl
  · show w10.1 35 2 = nI 0
    rw [e10, upI_ne (by decide), e9, upI_eq]
    rfl
  · show w10.1 37 2 = nI 0
    rw [e10, upI_eq]
    rfl
  · rw [(all.pl 28 (by decide) (by decide)).1]
    exact i.2.2.2.2 x hx
  · rw [(all.pl 32 (by decide) (by decide)).1]
    exact j.1
  · rw [(all.pl 33 (by decide) (by decide)).1]
    exact j.2 q hq
theorem i40 : (40 : Int32) = nI 40 := rfl
theorem op_setGroup : Op_setGroup INV := by
  rintro a1 a2 w ⟨s, hs⟩
  have hC := hs.2.1
  have h2 : (2 : Int32) = nI 2 := rfl
  rcases rg_or 2 40 (by decide) (by decide) a1 with h1 | ⟨n, hn1, hn2, rfl⟩
  · refine glueI (val := -1) (nx := s) hs (r_A_setGroup (r_G_isPossible ⟨fun _ => zf' (sameA hC), fun c1 => ⟨fun _ => zf' (sameA hC), fun _ => ⟨fun _ => zf' (sameA hC), fun c3 => ?_⟩⟩⟩)) (fun w1 hM => r_B_setGroup (u_inF rfl rfl rfl h1 (zf (sameB hM)))) hs.1
    have : rng 2 40 a1 = true := decide_eq_true ⟨c1, c3⟩
    rw [h1] at this
    cases this
  have p1 : ¬ nI n < 2 := nI_nlt (b := 2) hn1 (by omega)
  have p2 : ¬ (40 : Int32) < nI n := nI_nlt (a := 40) hn2 (by decide)
  rcases rg_or 1 40 (by decide) (by decide) a2 with h1 | ⟨m, hm1, hm2, rfl⟩
  · refine glueI (val := -1) (nx := s) hs (r_A_setGroup (r_G_isPossible ⟨fun c => absurd c p1, fun _ => ⟨fun _ => zf' (sameA hC), fun c1 => ⟨fun c => absurd c p2, fun _ => ⟨fun _ => zf' (sameA hC), fun c3 => ?_⟩⟩⟩⟩)) (fun w1 hM => r_B_setGroup (u_inT rfl rfl rfl hn1 hn2 (by decide) (zt (u_inF rfl rfl rfl h1 (zf (sameB hM)))))) hs.1
    have : rng 1 40 a2 = true := decide_eq_true ⟨c1, c3⟩
    rw [h1] at this
    cases this
  have p3 : ¬ nI m < 1 := nI_nlt (b := 1) hm1 (by omega)
  have p4 : ¬ (40 : Int32) < nI m := nI_nlt (a := 40) hm2 (by decide)
  have hnm : n * m ≤ 1600 := Nat.mul_le_mul hn2 hm2
  by_cases hv : n * m ≤ 40
  · have ok : GOK n m := ⟨hn1, hm1, hv⟩
    have p5 : ¬ (40 : Int32) < nI n * nI m := by rw [pk_mul]; exact nI_nlt (a := 40) hv (by decide)
    refine glueI (val := nI (sN s * sM s)) (nx := stG s n m) hs (r_A_setGroup (r_G_isPossible ⟨fun c => absurd c p1, fun _ => ⟨fun c => absurd c p3, fun _ => ⟨fun c => absurd c p2, fun _ => ⟨fun c => absurd c p4, fun _ => ⟨fun c => absurd c p5, fun _ => zt' (fun a3 e3 => t_become ok (fun w4 hG4 hch4 => ?_))⟩⟩⟩⟩⟩)) (fun w1 hM => r_B_setGroup (u_inT rfl rfl rfl hn1 hn2 (by decide) (zt (u_inT rfl rfl rfl hm1 hm2 (by decide) (zt ?_))))) (hs.1.gr ok)
    · refine t_grp (r := a3) (K := fun r w1 => r = nI (sN s * sM s) ∧ CW (stG s n m) w1 ∧ Mo allA [] w w1) hC hG4 hch4 (fun w' h1 h2 => ⟨?_, h1, h2⟩)
      rw [e3]
      exact hC.1.1.2.2.2.1
    · rw [pk_mul, i40]
      refine pk_le (n * m) 40 (fun _ a5 e5 w6 e6 w7 e7 w8 e8 w9 e9 => ?_) (fun c => by omega)
      have e5' : a5 = nI (sN s * sM s) := by rw [e5]; exact hM.1.1.2.2.2
      subst e5'
      refine u_grp (w0 := w9) hM ⟨ok, ?_, ?_, ?_⟩ ?_ ?_ 6 0 w9 (by decide) (Mo.rf _ _ _) (fun q hq => absurd hq (Nat.not_lt_zero q))
      · rw [e9, upL_1, e8, upI_ne (by decide), e7, upI_ne (by decide), e6, upI_eq]
      · rw [e9, upL_1, e8, upI_ne (by decide), e7, upI_eq]
      · rw [e9, upL_1, e8, upI_eq]
      · rw [e9, e8, e7, e6]
        exact ((((Mo.rf _ _ w1).upI _ (Or.inr (by decide))).upI _ (Or.inr (by decide))).upI _ (Or.inr (by decide))).upL _ (Or.inr (by decide))
      · rw [e9]
        exact upL_eq _ _ _ _
  · have p5 : (40 : Int32) < nI n * nI m := by rw [pk_mul]; exact nI_lt (a := 40) (by omega) (by omega)
    refine glueI (val := -1) (nx := s) hs (r_A_setGroup (r_G_isPossible ⟨fun c => absurd c p1, fun _ => ⟨fun c => absurd c p3, fun _ => ⟨fun c => absurd c p2, fun _ => ⟨fun c => absurd c p4, fun _ => ⟨fun _ => zf' (sameA hC), fun c => absurd p5 c⟩⟩⟩⟩⟩)) (fun w1 hM => r_B_setGroup (u_inT rfl rfl rfl hn1 hn2 (by decide) (zt (u_inT rfl rfl rfl hm1 hm2 (by decide) (zt ?_))))) hs.1
    rw [pk_mul, i40]
    exact pk_le (n * m) 40 (fun c => absurd c hv) (fun _ => sameB hM)
