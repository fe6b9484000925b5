/-- the state after a search -/
def stQ (s : Sg) (N md so c : Nat) (fs : Nat → Nat) : Sg := (fun j => if j = 5 then md else if j = 6 then N else if j = 7 then so else if j = 8 then (if so = 0 then 0 else c) else s.1 j, fun j => if j = 3 then fsF c fs else s.2 j)
theorem stQ_f {s : Sg} {N md so c : Nat} {fs : Nat → Nat} (q : Nat) : sFi (stQ s N md so c fs) q = sFi s q ∧ sKh (stQ s N md so c fs) q = sKh s q ∧ sKb (stQ s N md so c fs) q = sKb s q := by
  refine ⟨?_, ?_, ?_⟩
  · show (if 9 + q = 5 then md else if 9 + q = 6 then N else if 9 + q = 7 then so else if 9 + q = 8 then (if so = 0 then 0 else c) else s.1 (9 + q)) = _
    rw [if_neg (by omega), if_neg (by omega), if_neg (by omega), if_neg (by omega)]
  · show (if 11 + q = 5 then md else if 11 + q = 6 then N else if 11 + q = 7 then so else if 11 + q = 8 then (if so = 0 then 0 else c) else s.1 (11 + q)) = _
    rw [if_neg (by omega), if_neg (by omega), if_neg (by omega), if_neg (by omega)]
  · show (if 4 + q = 3 then fsF c fs else s.2 (4 + q)) = _
    rw [if_neg (by omega)]
theorem WF.q {s : Sg} {N md so c : Nat} {fs : Nat → Nat} (h : WF s) (hN : N ≤ 2130) (hmd : md ≤ 5000) (hso : so ≤ 5000) (hc0 : c ≠ 0) (hc4 : c ≤ 4) (hfs : 0 < so → ∀ i, i < c → fs i ≠ 0 ∧ fs i < 2 ^ (sN s * sM s)) : WF (stQ s N md so c fs) := by
  obtain ⟨a1, a2, a3, a4, a5, a6, a7, a8, a9, a10, a11, a12, a13, a14⟩ := h
  refine ⟨a1, a2, a3, a4, ?_, ?_, ?_, ?_, ?_, a10, a11, a12, ?_, fun q hq => by
    rw [(stQ_f q).1, (stQ_f q).2.1, (stQ_f q).2.2]
    exact a14 q hq⟩
  · show md < 2 ^ 20
    omega
  · show N < 2 ^ 20
    omega
  · show so < 2 ^ 20
    omega
  · show (if so = 0 then 0 else c) ≤ 4
    split <;> omega
  · show so = 0 ↔ (if so = 0 then 0 else c) = 0
    by_cases e : so = 0
    · rw [if_pos e]
      exact ⟨fun _ => rfl, fun _ => e⟩
    · rw [if_neg e]
      exact ⟨fun c => absurd c e, fun c => absurd c hc0⟩
  · intro h0 k
    have h0' : 0 < so := h0
    have hf := hfs h0'
    show (k < (if so = 0 then 0 else c) → fsF c fs k ≠ 0) ∧ ((if so = 0 then 0 else c) ≤ k → fsF c fs k = 0) ∧ fsF c fs k < 2 ^ (sN s * sM s)
    rw [if_neg (by omega)]
    unfold fsF
    by_cases kc : k < c
    · rw [if_pos kc]
      exact ⟨fun _ => (hf k kc).1, fun c2 => absurd c2 (by omega), (hf k kc).2⟩
    · rw [if_neg kc]
      exact ⟨fun c2 => absurd c2 kc, fun _ => rfl, Nat.two_pow_pos _⟩
theorem CW.q {s : Sg} {N md so c : Nat} {fs : Nat → Nat} {w w2 : Wd} (h : CW s w) (hm : Mo [24, 25, 26, 27, 28, 29, 30, 31] [] w w2) (h8 : w2.1 24 8 = nI N) (h9 : w2.1 24 9 = nI md) (h10 : w2.1 24 10 = nI so) (h28 : ∀ d, d < 40 → w2.1 28 d = 0) (h31 : 0 < so → ∀ k, k < 6 → w2.2 31 k = lN (fsF c fs k)) : CW (stQ s N md so c fs) w2 ∧ Mo allA [] w w2 := by
  obtain ⟨a, b, c1, d, e, f, g, i⟩ := h
  refine ⟨⟨a.mo hm (by decide), b.mo hm (by decide), c1.mo hm (by decide), d.mo hm (by decide) (by decide), e.mo hm (by decide) (by decide) (by decide), f.mo hm (by decide) (by decide) (by decide), ⟨h8, h9, h10, h31, h28⟩, i.mo hm (by decide) (by decide)⟩, hm.mono (by decide) (fun _ c => absurd c List.not_mem_nil)⟩
theorem MW.q {s : Sg} {N md so c : Nat} {fs : Nat → Nat} {w w2 : Wd} (h : MW s w) (hm : Mo [47, 48, 54, 55, 56] [14, 15, 16] w w2) (h8 : w2.1 39 15 = nI N) (h9 : w2.1 39 14 = nI md) (h10 : w2.1 39 16 = nI (if so = 0 then 0 else c)) (h31 : 0 < so → ∀ k, k < c → w2.2 47 k = lN (fs k)) : MW (stQ s N md so c fs) w2 ∧ Mo allB [] w w2 := by
  obtain ⟨a, b, c1, d, e, f, g⟩ := h
  refine ⟨⟨a.mo hm (by decide) (by decide) (by decide) (by decide), b.mo hm (by decide) (by decide), c1.mo hm (by decide), d.mo hm (by decide) (by decide) (by decide), (fun q hq => by
    rw [(stQ_f q).1, (stQ_f q).2.1, (stQ_f q).2.2]
    exact e.mo hm (by decide) (by decide) q hq), ⟨h8, h9, h10, fun k hk => ?_⟩, g.mo hm (by decide) (by decide) (by decide)⟩, hm.mono (by decide) (fun _ _ => Or.inr (by decide))⟩
  have hk2 : k < (if so = 0 then 0 else c) := hk
  show w2.2 47 k = lN (fsF c fs k)
  by_cases e : so = 0
  · rw [if_pos e] at hk2
    omega
  · rw [if_neg e] at hk2
    unfold fsF
    rw [if_pos hk2]
    exact h31 (by omega) k hk2
/-- the answer of a search -/
def srV (s : Sg) (k L c t S : Nat) : Nat × Nat × (Nat → Nat) := srR (sN s) (sM s) (sHo s) L (cnd (sN s) (sM s) k t).1 c S (cnd (sN s) (sM s) k t).2 (2 * S + 1) 1 (fun _ => 0) (fun _ => 0) 0 0 (fun _ => 0)
def stS (s : Sg) (k L c t S : Nat) : Sg := stQ s (cnd (sN s) (sM s) k t).1 (srV s k L c t S).1 (srV s k L c t S).2.1 c (srV s k L c t S).2.2
theorem cnd_p {n m k t : Nat} (ok : GOK n m) (hv : n * m ≤ 25) (hk : 2 ≤ k) (hk5 : k ≤ 5) : ∀ i, i < (cnd n m k t).1 → (cnd n m k t).2 i ≠ 0 ∧ (cnd n m k t).2 i < 2 ^ (n * m) := fun i hi => by
  have h := (cnd_ok (t := t) ok hv hk hk5).2 i hi
  refine ⟨fun e => ?_, h.1⟩
  rw [e] at h
  have h0 : pop 0 = 0 := fb_ct_zero.mpr (fun k _ => Nat.zero_testBit k)
  omega
theorem SI.ini {n m N c S B : Nat} (hc0 : c ≠ 0) : SI n m N c S B 1 (fun _ => 0) (fun _ => 0) 0 0 (fun _ => 0) := ⟨by omega, Nat.zero_le _, Nat.le_refl _, fun _ _ => Nat.zero_le _, fun i hi => absurd hi (by omega), fun c => absurd c (by omega)⟩
theorem stS_wf {s : Sg} {k L c t S : Nat} (hs : WF s) (hv : sN s * sM s ≤ 25) (hk : 2 ≤ k) (hk5 : k ≤ 5) (hc0 : c ≠ 0) (hc4 : c ≤ 4) (hS : S ≤ 5000) : WF (stS s k L c t S) := by
  have h := srR_ok (n := sN s) (m := sM s) (ho := sHo s) (L := L) (S := S) (cnd_p (t := t) hs.1 hv hk hk5) (2 * S + 1) 1 (fun _ => 0) (fun _ => 0) 0 0 (fun _ => 0) (SI.ini hc0)
  exact hs.q (cnd_ok (t := t) hs.1 hv hk hk5).1 (Nat.le_trans h.1 hS) (Nat.le_trans h.2.1 hS) hc0 hc4 h.2.2
theorem t_srch {s : Sg} {k L c t S : Nat} {w0 : Wd} {K : Int32 → Wd → Prop} (hs : WF s) (hC : CW s w0) (hv : sN s * sM s ≤ 25) (hk : 2 ≤ k) (hk5 : k ≤ 5) (hL : L ≤ 9) (hc0 : c ≠ 0) (hc4 : c ≤ 4) (ht : t < 1000) (hS : S ≤ 5000) (h : ∀ w, CW (stS s k L c t S) w → Mo allA [] w0 w → K (nI (srV s k L c t S).2.1) w) : RunV 1 M_N_setLimits [.ref 24, .long (w0.2 0 12), .int (nI L)] w0 (fun w13 => RunV 1 M_N_listCandidates [.ref 24, .int (nI k), .int (nI t)] w13 (fun w14 => RunV 1 M_N_run [.ref 24, .int (nI c), .int (nI S)] w14 (fun w15 => K (w15.1 24 10) w15))) := by
  have ok := hs.1
  have hF := hC.2.2.2.2.2.2.1
  rw [show w0.2 0 12 = lN (sHo s) from hC.2.1]
  refine t_limits hC.1 hs.2.1 (fun w1 hm1 h27 => ?_)
  have hG1 : Gd (sN s) (sM s) w1 := hC.1.mo hm1.mo (by decide)
  refine t_cand hG1 hv hk hk5 ht (fun w2 hm2 h8 h24 hL2 => ?_)
  have hG2 : Gd (sN s) (sM s) w2 := hG1.mo hm2 (by decide)
  have hN := (cnd_ok (t := t) ok hv hk hk5).1
  have m02 : Mo [24, 25, 26, 27, 28, 29, 30, 31] [] w0 w2 := (hm1.mo.mono (by decide) (fun _ c => absurd c List.not_mem_nil)).tr (hm2.mono (by decide) (fun _ c => absurd c List.not_mem_nil))
  refine r_N_run (fun w3 e3 w4 e4 => t_fillL rfl (by decide) (by decide) (fun w5 hm5 h31 => ⟨(show vp_in (nI 0) 4 from vp_in_nI (by decide) (by decide)), fun w6 e6 a5 e5 => ?_⟩))
  have e6' : w6 = upI w5 29 0 (nI 0) := e6
  rw [show (2 : Int32) = nI 2 from rfl, pk_mul, i1, nI_add] at e5
  subst e5
  have g1 : ∀ p q, p ≠ 24 → p ≠ 29 → w6.1 p q = w2.1 p q := fun p q h1 h2 => by rw [e6', upI_ne (by omega), hm5.2, e4, upI_ne (by omega), e3, upI_ne (by omega)]
  have g2 : ∀ p, p ≠ 31 → w6.2 p = w2.2 p := fun p h1 => by rw [e6', upI_2, hm5.1 p h1, e4, upI_2, e3, upI_2]
  have g3 : ∀ q, q ≠ 9 → q ≠ 10 → w6.1 24 q = w2.1 24 q := fun q h1 h2 => by rw [e6', upI_ne (by omega), hm5.2, e4, upI_ne (by omega), e3, upI_ne (by omega)]
  have g9 : w6.1 24 9 = nI 0 := by rw [e6', upI_ne (by omega), hm5.2, e4, upI_ne (by omega), e3, upI_eq]; rfl
  have g10 : w6.1 24 10 = nI 0 := by rw [e6', upI_ne (by omega), hm5.2, e4, upI_eq]; rfl
  have m26 : Mo [24, 25, 26, 27, 28, 29, 30, 31] [] w2 w6 := fun p q hp _ => by
    have h24' : p ≠ 24 := fun e => hp (by rw [e]; decide)
    have h29' : p ≠ 29 := fun e => hp (by rw [e]; decide)
    have h31' : p ≠ 31 := fun e => hp (by rw [e]; decide)
    exact ⟨g1 p q h24' h29', by rw [g2 p h31']⟩
  have h28 : ∀ d, d < 40 → w6.1 28 d = 0 := fun d hd => by
    rw [g1 28 d (by decide) (by decide), (hm2.pl 28 (by decide) (by decide)).1, hm1.1 28 (by decide)]
    exact hF.2.2.2.2 d hd
  have hG6 : Gd (sN s) (sM s) w6 := hG2.mo m26 (by decide)
  have R : cRw (sN s) (sM s) (sHo s) L (cnd (sN s) (sM s) k t).1 c (cnd (sN s) (sM s) k t).2 1 (fun _ => 0) (fun _ => 0) 0 0 (fun _ => 0) w6 := by
    refine ⟨by rw [g3 8 (by decide) (by decide)]; exact h8, g9, g10, fun i hi => by rw [g2 25 (by decide)]; exact hL2 i hi, fun d hd => by rw [g1 27 d (by decide) (by decide), (hm2.pl 27 (by decide) (by decide)).1]; exact h27 d hd, fun i hi => ?_, fun i hi => absurd hi (by omega), fun i hi d hd d0 => ?_, h28, fun c => absurd c (by omega), fun _ q hq => ?_⟩
    · rw [show i = 0 by omega, e6', upI_eq]
    · rw [show i = 0 by omega, Nat.zero_mul, Nat.zero_add, h28 d (by have := ok.2.2; omega)]
      rfl
    · rw [e6', upI_2]
      exact h31 q hq
  have hrun := t_run (K := fun w15 => K (w15.1 24 10) w15) hG6 hL hN hc4 hS (cnd_p (t := t) ok hv hk hk5) (2 * S + 1) 0 1 (fun _ => 0) (fun _ => 0) 0 0 (fun _ => 0) w6 (by omega) (by omega) (SI.ini hc0) R (Mo.rf _ _ _) (fun _ _ _ => rfl) (fun w' md' so' fs' hres h9' h10' h28' h31' hm' h24' => ?_)
  · rw [lnI_s] at hrun
    exact hrun
  · have hres2 : (md', so', fs') = srV s k L c t S := hres
    have m0' : Mo [24, 25, 26, 27, 28, 29, 30, 31] [] w0 w' := (m02.tr m26).tr (hm'.mono (by decide) (fun _ c => absurd c List.not_mem_nil))
    have h8' : w'.1 24 8 = nI (cnd (sN s) (sM s) k t).1 := by rw [h24' 8 (by decide) (by decide), g3 8 (by decide) (by decide)]; exact h8
    have q := hC.q (c := c) (fs := fs') m0' h8' h9' h10' h28' h31'
    unfold stS at h
    rw [← hres2] at h
    rw [h10']
    exact h w' q.1 q.2
theorem u_srch {s : Sg} {k L c t S : Nat} {w0 w1 : Wd} {K : Int32 → Wd → Prop} (hs : WF s) (hM : MW s w0) (hv : sN s * sM s ≤ 25) (hk : 2 ≤ k) (hk5 : k ≤ 5) (hL0 : L ≠ 0) (hL : L ≤ 9) (hc0 : c ≠ 0) (hc4 : c ≤ 4) (hS : S ≤ 5000) (hm1 : Mo [54] [15] w0 w1) (h15 : w1.1 39 15 = nI (cnd (sN s) (sM s) k t).1) (h54 : cW 54 (cnd (sN s) (sM s) k t) w1) (h : ∀ w, MW (stS s k L c t S) w → Mo allB [] w0 w → K (nI (srV s k L c t S).2.1) w) : RunI 1 M_B_searches [.ref 39, .int (nI L), .int (nI c), .int (nI S)] w1 K := by
  have ok := hs.1
  have hN := (cnd_ok (t := t) ok hv hk hk5).1
  refine r_B_searches (fun w3 e3 w4 e4 => ⟨(show vp_in (nI 0) 5 from vp_in_nI (by decide) (by decide)), fun w6 e6 => ?_⟩)
  have e6' : w6 = upI w4 56 0 (nI 0) := e6
  have m16 : Mo [47, 48, 54, 55, 56] [14, 15, 16] w1 w6 := by
    rw [e6', e4, e3]
    exact (((Mo.rf _ _ _).upI _ (Or.inr (by decide))).upI _ (Or.inr (by decide))).upI _ (Or.inl (by decide))
  have m06 : Mo [47, 48, 54, 55, 56] [14, 15, 16] w0 w6 := (hm1.mono (by decide) (fun k hk => Or.inl (by rw [List.mem_singleton.mp hk]; decide))).tr m16
  have hB := hM.1.1
  have hB6 : Bg (sN s) (sM s) w6 := ⟨hB.1, by rw [(m06.sl 0 (by decide) (by decide)).1]; exact hB.2.1, by rw [(m06.sl 1 (by decide) (by decide)).1]; exact hB.2.2.1, by rw [(m06.sl 2 (by decide) (by decide)).1]; exact hB.2.2.2⟩
  have hH6 : w6.2 39 3 = lN (sHo s) := by rw [(m06.sl 3 (by decide) (by decide)).2]; exact hM.2.1
  have g15 : w6.1 39 15 = nI (cnd (sN s) (sM s) k t).1 := by rw [e6', upI_ne (by omega), e4, upI_ne (by omega), e3, upI_ne (by omega)]; exact h15
  have g54 : ∀ i, i < (cnd (sN s) (sM s) k t).1 → w6.2 54 i = lN ((cnd (sN s) (sM s) k t).2 i) := fun i hi => by rw [e6', upI_2, e4, upI_2, e3, upI_2]; exact h54 i hi
  have R : mRw c 1 (fun _ => 0) (fun _ => 0) 0 0 (fun _ => 0) w6 := by
    refine ⟨by rw [e6', upI_ne (by omega), e4, upI_ne (by omega), e3, upI_eq]; rfl, by rw [e6', upI_ne (by omega), e4, upI_eq]; rfl, fun i hi => ?_, fun i hi => absurd hi (by omega), fun c => absurd c (by omega)⟩
    rw [show i = 0 by omega, e6', upI_eq]
  have hrun := u_run (K := K) hs hB6 hH6 g15 g54 hL0 hL hN hc0 hc4 hS (cnd_p (t := t) ok hv hk hk5) (fun i hi => by rw [((cnd_ok (t := t) ok hv hk hk5).2 i hi).2]; exact hk) (2 * S + 1) 0 1 (fun _ => 0) (fun _ => 0) 0 0 (fun _ => 0) w6 (by omega) (by omega) (SI.ini hc0) (fun i hi => absurd hi (by omega)) R (Mo.rf _ _ _) (fun w' md' so' fs' hres h9' h10' h47' hm' => ?_)
  · rw [lnI_s] at hrun
    exact hrun
  · have hres2 : (md', so', fs') = srV s k L c t S := hres
    have m0' : Mo [47, 48, 54, 55, 56] [14, 15, 16] w0 w' := m06.tr (hm'.mono (by decide) (by decide))
    have h15' : w'.1 39 15 = nI (cnd (sN s) (sM s) k t).1 := by rw [(hm'.sl 15 (by decide) (by decide)).1]; exact g15
    have q := hM.q (c := c) (fs := fs') m0' h15' h9' h10' h47'
    unfold stS at h
    rw [← hres2] at h
    exact h w' q.1 q.2
theorem front_A {n m : Nat} {a1 a2 a3 a4 a5 : Int32} {w : Wd} {K : Int32 → Wd → Prop} (hG : Gd n m w) (hbad : (rng 2 5 a1 && (rng 1 9 a2 && (rng 1 4 a3 && (rng 1 (n * m - 1) a4 && rng 1 5000 a5)))) = false → K (-1) w) (hgood : (rng 2 5 a1 && (rng 1 9 a2 && (rng 1 4 a3 && (rng 1 (n * m - 1) a4 && rng 1 5000 a5)))) = true → RunZ 1 M_G_isCoprime [.ref 1, .int a4] w (fun z12 w11 => (z12 = true → ((w11.1 1 2) ≤ 25 → RunV 1 M_N_setLimits [.ref 24, .long (w11.2 0 12), .int a2] w11 (fun w13 => RunV 1 M_N_listCandidates [.ref 24, .int a1, .int a4] w13 (fun w14 => RunV 1 M_N_run [.ref 24, .int a3, .int a5] w14 (fun w15 => K (w15.1 24 10) w15)))) ∧ (¬ (w11.1 1 2) ≤ 25 → K ((-3)) w11)) ∧ (z12 = false → K ((-1)) w11))) : RunI 1 M_A_search [.ref 0, .int a1, .int a2, .int a3, .int a4, .int a5] w K := by
  have hv0 := hG.1.1.v0
  refine r_A_search (t_within ?_)
  rw [show decide (¬ a1 < 2 ∧ ¬ 5 < a1) = rng 2 5 a1 from rfl]
  cases h1 : rng 2 5 a1 with
  | false =>
    rw [h1, Bool.false_and] at hbad
    exact zf (hbad rfl)
  | true =>
    rw [h1, Bool.true_and] at hbad hgood
    refine zt (t_within ?_)
    rw [show decide (¬ a2 < 1 ∧ ¬ 9 < a2) = rng 1 9 a2 from rfl]
    cases h2 : rng 1 9 a2 with
    | false =>
      rw [h2, Bool.false_and] at hbad
      exact zf (hbad rfl)
    | true =>
      rw [h2, Bool.true_and] at hbad hgood
      refine zt (t_within ?_)
      rw [show decide (¬ a3 < 1 ∧ ¬ 4 < a3) = rng 1 4 a3 from rfl]
      cases h3 : rng 1 4 a3 with
      | false =>
        rw [h3, Bool.false_and] at hbad
        exact zf' (hbad rfl)
      | true =>
        rw [h3, Bool.true_and] at hbad hgood
        refine zt' ?_
        rw [hG.1.2.2.2.1, i1, pk_sub hv0]
        refine t_within ?_
        rw [show decide (¬ a4 < nI 1 ∧ ¬ nI (n * m - 1) < a4) = rng 1 (n * m - 1) a4 from rfl]
        cases h4 : rng 1 (n * m - 1) a4 with
        | false =>
          rw [h4, Bool.false_and] at hbad
          exact zf (hbad rfl)
        | true =>
          rw [h4, Bool.true_and] at hbad hgood
          refine zt (t_within ?_)
          rw [show decide (¬ a5 < nI 1 ∧ ¬ 5000 < a5) = rng 1 5000 a5 from rfl]
          cases h5 : rng 1 5000 a5 with
          | false => exact zf' (hbad h5)
          | true => exact zt' (hgood h5)
theorem front_B {n m : Nat} {a1 a2 a3 a4 a5 : Int32} {w : Wd} {K : Int32 → Wd → Prop} (hB : Bg n m w) (hbad : (rng 2 5 a1 && (rng 1 9 a2 && (rng 1 4 a3 && (rng 1 (n * m - 1) a4 && rng 1 5000 a5)))) = false → K (-1) w) (hgood : (rng 2 5 a1 && (rng 1 9 a2 && (rng 1 4 a3 && (rng 1 (n * m - 1) a4 && rng 1 5000 a5)))) = true → RunI 1 M_B_gcd [.int a4, .int (w.1 39 2)] w (fun r2 w1 => (r2 ≤ 1 → ((w1.1 39 2) ≤ 25 → (a1 ≤ (w1.1 39 2) → RunV 1 M_B_findCandidates [.ref 39, .int a1, .int a4] w1 (fun w3 => RunI 1 M_B_searches [.ref 39, .int a2, .int a3, .int a5] w3 (fun r5 w4 => K r5 w4))) ∧ (¬ a1 ≤ (w1.1 39 2) → ∀ w6 : Wd, w6 = upI w1 39 15 0 → RunI 1 M_B_searches [.ref 39, .int a2, .int a3, .int a5] w6 (fun r8 w7 => K r8 w7))) ∧ (¬ (w1.1 39 2) ≤ 25 → K ((-3)) w1)) ∧ (¬ r2 ≤ 1 → K ((-1)) w1))) : RunI 1 M_B_search [.ref 39, .int a1, .int a2, .int a3, .int a4, .int a5] w K := by
  have hv := hB.1.2.2
  have hv0 := hB.1.v0
  have no : ∀ {z : Bool}, z = false → (z = false → K (-1) w) → E 1 M_B_search 73 [(0, .ref 39), (1, .int a1), (2, .int a2), (3, .int a3), (4, .int a4), (5, .int a5)] [.int 0] w (qI 1 K) := fun e h => w_B_search_73 ⟨fun _ => h e, fun c => absurd rfl c⟩
  refine r_B_search (u_in (lo := 2) (hi := 5) rfl rfl rfl ?_)
  rw [show decide (¬ a1 < 2 ∧ ¬ 5 < a1) = rng 2 5 a1 from rfl]
  cases h1 : rng 2 5 a1 with
  | false =>
    rw [h1, Bool.false_and] at hbad
    exact zf (no rfl hbad)
  | true =>
    rw [h1, Bool.true_and] at hbad hgood
    refine zt (u_in (lo := 1) (hi := 9) rfl rfl rfl ?_)
    rw [show decide (¬ a2 < 1 ∧ ¬ 9 < a2) = rng 1 9 a2 from rfl]
    cases h2 : rng 1 9 a2 with
    | false =>
      rw [h2, Bool.false_and] at hbad
      exact zf (no rfl hbad)
    | true =>
      rw [h2, Bool.true_and] at hbad hgood
      refine zt (u_in (lo := 1) (hi := 4) rfl rfl rfl ?_)
      rw [show decide (¬ a3 < 1 ∧ ¬ 4 < a3) = rng 1 4 a3 from rfl]
      cases h3 : rng 1 4 a3 with
      | false =>
        rw [h3, Bool.false_and] at hbad
        exact zf (no rfl hbad)
      | true =>
        rw [h3, Bool.true_and] at hbad hgood
        refine zt ?_
        rw [hB.2.2.2, i1, pk_sub hv0]
        refine u_in (lo := 1) (hi := nI (n * m - 1)) rfl rfl rfl ?_
        rw [show decide (¬ a4 < 1 ∧ ¬ nI (n * m - 1) < a4) = rng 1 (n * m - 1) a4 from rfl]
        cases h4 : rng 1 (n * m - 1) a4 with
        | false =>
          rw [h4, Bool.false_and] at hbad
          exact zf (no rfl hbad)
        | true =>
          rw [h4, Bool.true_and] at hbad hgood
          refine zt (u_in (lo := 1) (hi := 5000) rfl rfl rfl ?_)
          rw [show decide (¬ a5 < 1 ∧ ¬ 5000 < a5) = rng 1 5000 a5 from rfl]
          cases h5 : rng 1 5000 a5 with
          | false => exact zf (no h5 hbad)
          | true => exact zt (w_B_search_73 ⟨fun c => absurd c (by decide), fun _ => hgood h5⟩)
theorem op_search : Op_search INV := by
  rintro a1 a2 a3 a4 a5 w ⟨s, hs⟩
  have hC := hs.2.1
  have ok := hs.1.1
  have hv40 := ok.2.2
  have v0 := ok.v0
  cases hz : (rng 2 5 a1 && (rng 1 9 a2 && (rng 1 4 a3 && (rng 1 (sN s * sM s - 1) a4 && rng 1 5000 a5)))) with
  | false =>
    exact glueI (val := -1) (nx := s) hs (front_A hC.1 (fun _ => ⟨rfl, hC, Mo.rf _ _ _⟩) (fun c => by rw [hz] at c; cases c)) (fun w1 hM => front_B hM.1.1 (fun _ => ⟨rfl, hM, Mo.rf _ _ _⟩) (fun c => by rw [hz] at c; cases c)) hs.1
  | true =>
    have hz2 := hz
    rw [Bool.and_eq_true, Bool.and_eq_true, Bool.and_eq_true, Bool.and_eq_true] at hz2
    obtain ⟨z1, z2, z3, z4, z5⟩ := hz2
    obtain ⟨k, hk, hk5, rfl⟩ := rng_of (by decide) (by decide) z1
    obtain ⟨L, hL0, hL, rfl⟩ := rng_of (by decide) (by decide) z2
    obtain ⟨c, hc0, hc4, rfl⟩ := rng_of (by decide) (by decide) z3
    obtain ⟨t, ht0, ht, rfl⟩ := rng_of (by decide) (by omega) z4
    obtain ⟨S, hS0, hS, rfl⟩ := rng_of (by decide) (by decide) z5
    have hgp : 0 < Nat.gcd t (sN s * sM s) := Nat.gcd_pos_of_pos_left _ (by omega)
    have hgl : Nat.gcd t (sN s * sM s) ≤ t := Nat.gcd_le_left _ (by omega)
    cases hco : coP t (sN s * sM s) with
    | false =>
      have hg2 : ¬ Nat.gcd t (sN s * sM s) = 1 := of_decide_eq_false hco
      refine glueI (val := -1) (nx := s) hs (front_A hC.1 (fun c => by rw [hz] at c; cases c) (fun _ => t_coprime hC.1.1 (by omega) ?_)) (fun w1 hM => front_B hM.1.1 (fun c => by rw [hz] at c; cases c) (fun _ => ?_)) hs.1
      · rw [hco]
        exact zf' ⟨rfl, hC, Mo.rf _ _ _⟩
      · rw [hM.1.1.2.2.2]
        refine u_gcd (by omega) (by omega) ?_
        rw [i1]
        exact pk_le (Nat.gcd t (sN s * sM s)) 1 (fun c => by omega) (fun _ => ⟨rfl, hM, Mo.rf _ _ _⟩)
    | true =>
      have hg2 : Nat.gcd t (sN s * sM s) = 1 := of_decide_eq_true hco
      by_cases hv : sN s * sM s ≤ 25
      · refine glueI (val := nI (srV s k L c t S).2.1) (nx := stS s k L c t S) hs (front_A hC.1 (fun c => by rw [hz] at c; cases c) (fun _ => t_coprime hC.1.1 (by omega) ?_)) (fun w1 hM => front_B hM.1.1 (fun c => by rw [hz] at c; cases c) (fun _ => ?_)) (stS_wf hs.1 hv hk hk5 (by omega) hc4 hS)
        · rw [hco]
          refine zt' ?_
          rw [hC.1.1.2.2.2.1]
          refine pk_le (sN s * sM s) 25 (fun _ => ?_) (fun c => by omega)
          exact t_srch (k := k) (L := L) (c := c) (t := t) (S := S) (K := fun r w1 => r = nI (srV s k L c t S).2.1 ∧ CW (stS s k L c t S) w1 ∧ Mo allA [] w w1) hs.1 hC hv hk hk5 hL (by omega) hc4 (by omega) hS (fun w2 h2 m2 => ⟨rfl, h2, m2⟩)
        · rw [hM.1.1.2.2.2]
          refine u_gcd (by omega) (by omega) ?_
          rw [i1, hM.1.1.2.2.2]
          refine pk_le (Nat.gcd t (sN s * sM s)) 1 (fun _ => pk_le (sN s * sM s) 25 (fun _ => pk_le k (sN s * sM s) (fun ck => ?_) (fun ck w6 e6 => ?_)) (fun c => by omega)) (fun c => by omega)
          · refine u_cand hM.1.1 hv hk hk5 (by omega) (fun w3 hm3 h15 h54 => ?_)
            exact u_srch hs.1 hM hv hk hk5 (by omega) hL (by omega) hc4 hS hm3 h15 h54 (fun w2 h2 m2 => ⟨rfl, h2, m2⟩)
          · have e0 := cnd_0 (t := t) ck
            refine u_srch (k := k) (t := t) hs.1 hM hv hk hk5 (by omega) hL (by omega) hc4 hS (w1 := w6) (by rw [e6]; exact (Mo.rf _ _ _).upI _ (Or.inr (by decide))) (by rw [e6, upI_eq, e0]; rfl) (by rw [e0]; exact fun i hi => absurd hi (Nat.not_lt_zero i)) (fun w2 h2 m2 => ⟨rfl, h2, m2⟩)
      · refine glueI (val := -3) (nx := s) hs (front_A hC.1 (fun c => by rw [hz] at c; cases c) (fun _ => t_coprime hC.1.1 (by omega) ?_)) (fun w1 hM => front_B hM.1.1 (fun c => by rw [hz] at c; cases c) (fun _ => ?_)) hs.1
        · rw [hco]
          refine zt' ?_
          rw [hC.1.1.2.2.2.1]
          exact pk_le (sN s * sM s) 25 (fun c => absurd c hv) (fun _ => ⟨rfl, hC, Mo.rf _ _ _⟩)
        · rw [hM.1.1.2.2.2]
          refine u_gcd (by omega) (by omega) ?_
          rw [i1, hM.1.1.2.2.2]
          exact pk_le (Nat.gcd t (sN s * sM s)) 1 (fun _ => pk_le (sN s * sM s) 25 (fun c => absurd c hv) (fun _ => ⟨rfl, hM, Mo.rf _ _ _⟩)) (fun c => by omega)
