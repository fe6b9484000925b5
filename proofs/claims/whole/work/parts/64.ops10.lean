/-- how much is lacking -/
def lkD (ho t : Nat) (c : Nat → Nat) (k : Nat) : Nat := if k = 0 then 0 else if ho.testBit k then c k else if c k ≤ t then t - c k else c k - t
def lkF (ho t : Nat) (c : Nat → Nat) : Nat → Nat
  | 0 => 0
  | k + 1 => lkF ho t c k + lkD ho t c k
theorem lkF_1 (ho t : Nat) (c : Nat → Nat) : lkF ho t c 1 = 0 := rfl
theorem lkF_cong {ho t : Nat} {c c' : Nat → Nat} : ∀ {k : Nat}, (∀ d, d < k → d ≠ 0 → c d = c' d) → lkF ho t c k = lkF ho t c' k
  | 0, _ => rfl
  | k + 1, h => by
    rw [lkF, lkF, lkF_cong (fun d hd h0 => h d (by omega) h0)]
    congr 1
    unfold lkD
    by_cases h0 : k = 0
    · rw [if_pos h0, if_pos h0]
    · rw [if_neg h0, if_neg h0, h k (by omega) h0]
theorem abs_nI {a t : Nat} (ha : a < 2 ^ 30) (ht : t < 2 ^ 30) : (if 0 ≤ (nI a - nI t) then (nI a - nI t) else 0 - (nI a - nI t)) = nI (if a ≤ t then t - a else a - t) := by
  by_cases h : t ≤ a
  · rw [pk_sub h, if_pos (by rw [Int32.le_iff_toInt_le, nI_toInt (by omega)]; exact Int.natCast_nonneg _)]
    by_cases h2 : a ≤ t
    · rw [if_pos h2, show t - a = a - t by omega]
    · rw [if_neg h2]
  · have e : nI a - nI t = -nI (t - a) := by rw [← pk_sub (by omega), Int32.neg_sub]
    have e2 : (-nI (t - a)).toInt = -((t - a : Nat) : Int) := by rw [fb_negI (by rw [nI_toInt (by omega)]; omega), nI_toInt (by omega)]
    rw [if_neg, if_pos (by omega), e, Int32.sub_neg, Int32.zero_add]
    rw [e, Int32.le_iff_toInt_le, e2]
    intro c
    have : (0 : Int32).toInt = 0 := rfl
    omega
theorem t_lackW {s : Sg} {S t : Nat} {c : Nat → Nat} {w : Wd} {K : Int32 → Wd → Prop} (hs : WF s) (hG : Gd (sN s) (sM s) w) (hS : S < 2 ^ (sN s * sM s)) (ht : t < 2 ^ 20) (hc : ∀ d, d < 40 → w.1 9 d = nI (c d) ∧ c d < 2 ^ 20) (h : K (nI (lkF (sHo s) t (fun d => c d + dc (sN s) (sM s) S d (sN s * sM s)) (sN s * sM s))) w) : RunI 1 M_F_lackWith [.ref 8, .long (lN S), .long (lN (sHo s)), .int (nI t)] w K := by
  have ok := hs.1
  have hv := ok.2.2
  have h40 := pow40 hv
  have hv2 := ok.mv
  have hm0 := ok.m0
  have hho := hs.ho
  have key : ∀ j d, d + 1 + j = sN s * sM s → E 1 M_F_lackWith 9 [(0, .ref 8), (1, .long (lN S)), (3, .long (lN (sHo s))), (5, .int (nI t)), (6, .int (nI (lkF (sHo s) t (fun d => c d + dc (sN s) (sM s) S d (sN s * sM s)) (d + 1)))), (7, .long (lN (trS (sN s) (sM s) S d))), (9, .int (nI (d + 1)))] [] w (qI 1 K) := by
    intro j
    induction j with
    | zero =>
      intro d hd
      refine w_F_lackWith_9 ?_
      rw [hG.1.2.2.2.1]
      refine pk_le (sN s * sM s) (d + 1) (fun _ => ?_) (fun c => by omega)
      rw [show d + 1 = sN s * sM s by omega]
      exact h
    | succ j ih =>
      intro d hd
      have hlt : S &&& trS (sN s) (sM s) S (d + 1) < 2 ^ (sN s * sM s) := Nat.lt_of_le_of_lt Nat.and_le_left hS
      have hle := dc_le (sN s) (sM s) S (d + 1) (sN s * sM s)
      have hcd := hc (d + 1) (by omega)
      have ih1 := ih (d + 1) (by omega)
      rw [lkF] at ih1
      refine w_F_lackWith_9 ?_
      rw [hG.1.2.2.2.1, i1, pk_sub (by omega), Nat.add_sub_cancel]
      refine pk_le (sN s * sM s) (d + 1) (fun c => by omega) (fun _ => t_onward hG (by omega) ?_)
      rw [Nat.mod_eq_of_lt (by omega), fb_andL]
      refine ⟨vp_in_nI (by omega) (by decide), t_bitCount (by omega) (fun a5 e5 => t_holds (by omega) (by omega) ?_)⟩
      rw [nI_clamp (by omega), pop_dc ok hS (by omega) (by omega), hcd.1, nI_add] at e5
      subst e5
      unfold lkD at ih1
      rw [if_neg (by omega)] at ih1
      cases hb : (sHo s).testBit (d + 1) with
      | false =>
        refine zf (fun a8 e8 a9 e9 => ?_)
        rw [abs_nI (by omega) (by omega), nI_add] at e8
        rw [nI_add] at e9
        subst e8
        subst e9
        rw [hb, if_neg (by decide)] at ih1
        exact ih1
      | true =>
        refine zt (fun a8 e8 a9 e9 => ?_)
        rw [nI_add] at e8 e9
        subst e8
        subst e9
        rw [hb, if_pos rfl] at ih1
        exact ih1
  have h0 := key (sN s * sM s - 1) 0 (by omega)
  rw [trS_0 ok hS] at h0
  exact r_F_lackWith h0
theorem dc_0 (n m d k : Nat) : dc n m 0 d k = 0 := by
  unfold dc
  split
  · refine fb_ct_zero.mpr (fun a _ => ?_)
    unfold dq
    rw [Nat.zero_testBit]
    rfl
  · rfl
abbrev lk (s : Sg) (t : Nat) : Nat := lkF (sHo s) t (cn s) (sN s * sM s)
theorem t_lack {s : Sg} {t : Nat} {w : Wd} {K : Int32 → Wd → Prop} (hs : WF s) (hC : CW s w) (hc : ∀ d, d < 40 → w.1 9 d = nI (cn s d)) (ht : t < 2 ^ 20) (h : K (nI (lk s t)) w) : RunI 1 M_F_lack [.ref 8, .long (w.2 0 12), .int (nI t)] w K := by
  rw [hC.2.1]
  refine r_F_lack (t_lackW (S := 0) (c := cn s) hs hC.1 (Nat.two_pow_pos _) ht (fun d hd => ⟨hc d hd, by have := cn_le hs d; omega⟩) ?_)
  rw [lkF_cong (c' := cn s) (fun d _ _ => by rw [dc_0, Nat.add_zero])]
  exact h
theorem u_lack {s : Sg} {t : Nat} {w0 : Wd} {K : Int32 → Wd → Prop} (hs : WF s) (hM : MW s w0) (ht : t < 2 ^ 20) (h : ∀ w, MW s w → Mo allB [] w0 w → K (nI (lk s t)) w) : RunI 1 M_B_lack [.ref 39, .int (nI t)] w0 K := by
  have ok := hs.1
  have hv := ok.2.2
  have h40 := pow40 hv
  have hv2 := ok.mv
  have hm0 := ok.m0
  have hho := hs.ho
  refine r_B_lack (u_tal hs hM (fun w h2 m2 c2 => ?_))
  have key : ∀ j d, d + 1 + j = sN s * sM s → E 1 M_B_lack 14 [(0, .ref 39), (1, .int (nI t)), (2, .int (nI (lkF (sHo s) t (cn s) (d + 1)))), (3, .int (nI (d + 1)))] [] w (qI 1 K) := by
    intro j
    induction j with
    | zero =>
      intro d hd
      refine w_B_lack_14 ?_
      rw [h2.1.1.2.2.2]
      refine pk_le (sN s * sM s) (d + 1) (fun _ => ?_) (fun c => by omega)
      rw [show d + 1 = sN s * sM s by omega]
      exact h w h2 m2
    | succ j ih =>
      intro d hd
      have hcd := cn_le hs (d + 1)
      have ih1 := ih (d + 1) (by omega)
      rw [lkF] at ih1
      unfold lkD at ih1
      rw [if_neg (by omega)] at ih1
      refine w_B_lack_14 ?_
      rw [h2.1.1.2.2.2, h2.2.1, nI_clamp (by omega)]
      refine pk_le (sN s * sM s) (d + 1) (fun c => by omega) (fun _ => u_has (by omega) (by omega) ?_)
      rw [c2 (d + 1) (by omega)]
      cases hb : (sHo s).testBit (d + 1) with
      | false =>
        rw [hb, if_neg (by decide)] at ih1
        refine zf ⟨vp_in_nI (by omega) (by decide), pk_le (cn s (d + 1)) t (fun c => ⟨vp_in_nI (by omega) (by decide), fun a3 e3 a4 e4 => ?_⟩) (fun c => ⟨vp_in_nI (by omega) (by decide), fun a3 e3 a4 e4 => ?_⟩)⟩
        · rw [pk_sub c, nI_add] at e3
          rw [i1, nI_add] at e4
          subst e3
          subst e4
          rw [if_pos c] at ih1
          exact ih1
        · rw [pk_sub (by omega), nI_add] at e3
          rw [i1, nI_add] at e4
          subst e3
          subst e4
          rw [if_neg (by omega)] at ih1
          exact ih1
      | true =>
        rw [hb, if_pos rfl] at ih1
        refine zt ⟨vp_in_nI (by omega) (by decide), ?_⟩
        rw [i0]
        refine pk_le (cn s (d + 1)) 0 (fun c => ⟨vp_in_nI (by omega) (by decide), fun a3 e3 a4 e4 => ?_⟩) (fun c => ⟨vp_in_nI (by omega) (by decide), fun a3 e3 a4 e4 => ?_⟩)
        · rw [pk_sub c, nI_add] at e3
          rw [i1, nI_add] at e4
          subst e3
          subst e4
          rw [show 0 - cn s (d + 1) = cn s (d + 1) by omega]
          exact ih1
        · rw [pk_sub (by omega), nI_add] at e3
          rw [i1, nI_add] at e4
          subst e3
          subst e4
          exact ih1
  exact key (sN s * sM s - 1) 0 (by omega)
theorem op_deficiency : Op_deficiency INV := by
  rintro a1 w ⟨s, hs⟩
  have hC := hs.2.1
  rcases rg_or 1 20 (by decide) (by decide) a1 with h1 | ⟨t, ht1, ht2, rfl⟩
  · exact glueI (val := -1) (nx := s) hs (r_A_deficiency (t_wiF rfl rfl h1 (zf' (sameA hC)))) (fun w1 hM => r_B_deficiency (u_inF rfl rfl rfl h1 (zf (sameB hM)))) hs.1
  · exact glueI (val := nI (lk s t)) (nx := s) hs (r_A_deficiency (t_wiT rfl rfl ht1 ht2 (by decide) (zt' (t_tal hs.1 hC (fun w2 h2 m2 c2 => t_lack hs.1 h2 c2 (by omega) ⟨rfl, h2, m2⟩))))) (fun w1 hM => r_B_deficiency (u_inT rfl rfl rfl ht1 ht2 (by decide) (zt (u_lack hs.1 hM (by omega) (fun w2 h2 m2 => ⟨rfl, h2, m2⟩))))) hs.1
theorem op_exchange : Op_exchange INV := by
  rintro a1 a2 a3 w ⟨s, hs⟩
  have hC := hs.2.1
  have ok := hs.1.1
  have hv := ok.2.2
  have h40 := pow40 hv
  rcases rg_or 0 5 (by decide) (by decide) a1 with h1 | ⟨k, -, hk, rfl⟩
  · exact glueI (val := -1) (nx := s) hs (r_A_exchange (t_blF h1 (zf (sameA hC)))) (fun w1 hM => r_B_exchange (u_blF h1 (zf (sameB hM)))) hs.1
  have hk6 : k < 6 := by omega
  rcases el_or ok a2 with h2 | ⟨x, hx, rfl⟩
  · exact glueI (val := -1) (nx := s) hs (r_A_exchange (t_blT hk6 (zt (t_elF hC.1.1 h2 (zf (sameA hC)))))) (fun w1 hM => r_B_exchange (u_blT hk6 (zt (u_elF hM.1.1 h2 (zf (sameB hM)))))) hs.1
  rcases el_or ok a3 with h3 | ⟨y, hy, rfl⟩
  · exact glueI (val := -1) (nx := s) hs (r_A_exchange (t_blT hk6 (zt (t_elT hC.1.1 hx (zt (t_elF hC.1.1 h3 (zf' (sameA hC)))))))) (fun w1 hM => r_B_exchange (u_blT hk6 (zt (u_elT hM.1.1 hx (zt (u_elF hM.1.1 h3 (zf' (sameB hM)))))))) hs.1
  have hb := hs.1.bl hk6
  have ekC : w.2 10 (nI k).toNatClampNeg = lN (sBl s k) := by rw [nI_clamp (by omega)]; exact hC.2.2.1 k hk6
  by_cases hbit : (sBl s k).testBit x = true ∧ (sBl s k).testBit y = false
  · have hne : x ≠ y := fun e => by rw [e, hbit.2] at hbit; cases hbit.1
    have hxe : ((sBl s k) ^^^ (2 ^ x ||| 2 ^ y)) = ((sBl s k) ^^^ 2 ^ x) ^^^ 2 ^ y := by
      apply Nat.eq_of_testBit_eq
      intro i
      rw [Nat.testBit_xor, Nat.testBit_or, Nat.testBit_xor, Nat.testBit_xor, Nat.testBit_two_pow, Nat.testBit_two_pow]
      by_cases e1 : x = i
      · by_cases e2 : y = i
        · exact absurd (e1.trans e2.symm) hne
        · rw [decide_eq_true e1, decide_eq_false e2]
          cases (sBl s k).testBit i <;> rfl
      · rw [decide_eq_false e1]
        cases (sBl s k).testBit i <;> cases decide (y = i) <;> rfl
    have hlt : ((sBl s k) ^^^ 2 ^ x) ^^^ 2 ^ y < 2 ^ (sN s * sM s) := xor_lt (xor_lt hb hx) hy
    have hN : WF (stF s (bk s k (((sBl s k) ^^^ 2 ^ x) ^^^ 2 ^ y))) := hs.1.f (bk_lt hs.1 hlt)
    refine glueI (val := nI (lk (stF s (bk s k (((sBl s k) ^^^ 2 ^ x) ^^^ 2 ^ y))) 1)) (nx := stF s (bk s k (((sBl s k) ^^^ 2 ^ x) ^^^ 2 ^ y))) hs (r_A_exchange (t_blT hk6 (zt (t_elT hC.1.1 hx (zt (t_elT hC.1.1 hy (zt' ⟨vp_in_nI hk6 (by decide), ?_⟩))))))) (fun w1 hM => r_B_exchange (u_blT hk6 (zt (u_elT hM.1.1 hx (zt (u_elT hM.1.1 hy (zt' ⟨vp_in_nI hk6 (by decide), ?_⟩))))))) hN
    · rw [ekC]
      refine t_holds (by omega) (by omega) ?_
      rw [hbit.1]
      refine zt ⟨vp_in_nI hk6 (by decide), ?_⟩
      rw [ekC]
      refine t_holds (by omega) (by omega) ?_
      rw [hbit.2]
      refine zf (t_note hs.1.hs hC.2.2.2.1 hC.2.2.1 (fun w7 hm7 hY7 => ⟨vp_in_nI hk6 (by decide), vp_in_nI hk6 (by decide), fun w8 e8 => ?_⟩))
      have hB7 := hC.2.2.1.mo hm7 (by decide)
      rw [nI_clamp (by omega), hB7 k hk6, l_pow (by omega), l_pow (by omega), fb_orL, fb_xorL, hxe] at e8
      have h3 := hC.f hm7 hY7 (w2 := upL w7 10 k (lN (((sBl s k) ^^^ 2 ^ x) ^^^ 2 ^ y))) (f := bk s k (((sBl s k) ^^^ 2 ^ x) ^^^ 2 ^ y)) ((Mo.rf _ _ w7).upL _ (Or.inl (by decide))) (up_bk hB7)
      rw [← e8] at h3
      exact t_tal hN h3.1 (fun w9 h9 m9 c9 => t_lack hN h9 c9 (by decide) ⟨rfl, h9, h3.2.tr m9⟩)
    · rw [nI_clamp (by omega), hM.2.2.1 k hk6]
      refine u_has (by omega) (by omega) ?_
      rw [hbit.1]
      refine zt ⟨vp_in_nI hk6 (by decide), ?_⟩
      rw [hM.2.2.1 k hk6]
      refine u_has (by omega) (by omega) ?_
      rw [hbit.2]
      refine zf ⟨vp_in_nI hk6 (by decide), ?_⟩
      rw [hM.2.2.1 k hk6, l_pow (by omega), l_pow (by omega), fb_xorL, fb_xorL]
      exact u_becomes hs.1 hM hk6 (by omega) (fun w2 h3 h4 => u_lack hN h3 (by decide) (fun w3 h5 h6 => ⟨rfl, h5, h4.tr h6⟩))
  · refine glueI (val := -3) (nx := s) hs (r_A_exchange (t_blT hk6 (zt (t_elT hC.1.1 hx (zt (t_elT hC.1.1 hy (zt' ⟨vp_in_nI hk6 (by decide), ?_⟩))))))) (fun w1 hM => r_B_exchange (u_blT hk6 (zt (u_elT hM.1.1 hx (zt (u_elT hM.1.1 hy (zt' ⟨vp_in_nI hk6 (by decide), ?_⟩))))))) hs.1
    · rw [ekC]
      refine t_holds (by omega) (by omega) ?_
      cases hx1 : (sBl s k).testBit x with
      | false => exact zf (sameA hC)
      | true =>
        refine zt ⟨vp_in_nI hk6 (by decide), ?_⟩
        rw [ekC]
        refine t_holds (by omega) (by omega) ?_
        cases hy1 : (sBl s k).testBit y with
        | false => exact absurd ⟨hx1, hy1⟩ hbit
        | true => exact zt (sameA hC)
    · rw [nI_clamp (by omega), hM.2.2.1 k hk6]
      refine u_has (by omega) (by omega) ?_
      cases hx1 : (sBl s k).testBit x with
      | false => exact zf (sameB hM)
      | true =>
        refine zt ⟨vp_in_nI hk6 (by decide), ?_⟩
        rw [hM.2.2.1 k hk6]
        refine u_has (by omega) (by omega) ?_
        cases hy1 : (sBl s k).testBit y with
        | false => exact absurd ⟨hx1, hy1⟩ hbit
        | true => exact zt (sameB hM)
