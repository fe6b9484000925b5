/-- improve: the reference's side -/
theorem bk_same (s : Sg) (k : Nat) : tS s k (sBl s k) = s := by
  have h1 : bk s k (sBl s k) = sBl s := by
    funext j
    unfold bk
    by_cases e : j = k
    · rw [if_pos e, e]
    · rw [if_neg e]
  show (s.1, fun j => if j = 0 then bk s k (sBl s k) else s.2 j) = s
  rw [h1]
  have h2 : (fun j => if j = 0 then sBl s else s.2 j) = s.2 := by
    funext j
    by_cases e : j = 0
    · rw [if_pos e, e]
    · rw [if_neg e]
  rw [h2]
theorem MW.trial {s : Sg} {k S S' : Nat} {w : Wd} (h : MW (tS s k S') w) : MW (tS s k S) (upL w 40 k (lN S)) ∧ Mo allB [] w (upL w 40 k (lN S)) := by
  have hm : Mo [40] [] w (upL w 40 k (lN S)) := (Mo.rf _ _ w).upL _ (Or.inl (by decide))
  obtain ⟨a, b, c, d, e, g, i⟩ := h
  refine ⟨⟨a.mo hm (by decide) (by decide) (by decide) (by decide), b.mo hm (by decide) (by decide), fun j hj => ?_, d.mo hm (by decide) (by decide) (by decide), (e.mo hm (by decide) (by decide)).eq (fun q hq => ⟨rfl, rfl, (st2_ne (by omega)).trans (st2_ne (by omega)).symm⟩), g.mo hm (by decide) (by decide) (by decide), i.mo hm (by decide) (by decide) (by decide)⟩, hm.mono (by decide) (fun _ c => absurd c List.not_mem_nil)⟩
  show (upL w 40 k (lN S)).2 40 j = lN (bk s k S j)
  by_cases ej : j = k
  · rw [ej, upL_eq, show bk s k S k = S from if_pos rfl]
  · rw [upL_ne (by omega), show bk s k S j = sBl s j from if_neg ej]
    have := c j hj
    rw [show sBl (tS s k S') j = sBl s j from if_neg ej] at this
    exact this
def x3v (b : Nat × Nat × Nat) : Int32 := if b.2.1 = 0 then -1 else nI (b.2.1 - 1)
theorem u_imp_y {s : Sg} {t k x : Nat} {b0 : Nat × Nat × Nat} {w0 : Wd} {K : Int32 → Wd → Prop} (hs : WF s) (ht : t ≤ 20) (hk : k < 6) (hx : x < sN s * sM s) (hbx : (sBl s k).testBit x = true) (hb0 : okB s t b0)
    (h : ∀ w S', MW (tS s k S') w → Mo allB [] w0 w → E 1 M_B_improve 47 [(0, .ref 39), (1, .int (nI t)), (2, .int (nI (imY s t k x b0 (sN s * sM s)).1)), (3, .int (x3v (imY s t k x b0 (sN s * sM s)))), (4, .long (lN (imY s t k x b0 (sN s * sM s)).2.2)), (6, .int (nI k)), (7, .long (lN (sBl s k))), (9, .int (nI (x + 1)))] [] w (qI 1 K)) :
    ∀ j y w S', y + j = sN s * sM s → MW (tS s k S') w → Mo allB [] w0 w → E 1 M_B_improve 59 [(0, .ref 39), (1, .int (nI t)), (2, .int (nI (imY s t k x b0 y).1)), (3, .int (x3v (imY s t k x b0 y))), (4, .long (lN (imY s t k x b0 y).2.2)), (6, .int (nI k)), (7, .long (lN (sBl s k))), (9, .int (nI x)), (10, .int (nI y))] [] w (qI 1 K) := by
  have ok := hs.1
  have hv := ok.2.2
  have h40 := pow40 hv
  have hb := hs.bl hk
  intro j
  induction j with
  | zero =>
    intro y w S' hy hM hm
    refine w_B_improve_59 ?_
    rw [hM.1.1.2.2.2]
    refine pk_le (sN s * sM s) y (fun _ a1 e1 => ?_) (fun c => by omega)
    rw [i1, nI_add] at e1
    subst e1
    rw [show y = sN s * sM s by omega]
    exact h w S' hM hm
  | succ j ih =>
    intro y w S' hy hM hm
    have hyv : y < sN s * sM s := by omega
    have okb := imY_ok hs hk hx hb0 y (by omega)
    have hle := okb.le
    have hlk := lk_le hs ht
    have hxl := xS_lt hs hk hx hyv
    have hlk2 := lk_le (s := tS s k (xS s k x y)) (hs.tr hxl) ht
    have ih1 := ih (y + 1)
    rw [imY] at ih1
    unfold imT at ih1
    refine w_B_improve_59 ?_
    rw [hM.1.1.2.2.2]
    refine pk_le (sN s * sM s) y (fun c => by omega) (fun _ => u_has (by omega) (by omega) ?_)
    rw [hbx]
    refine zt (u_has (by omega) (by omega) ?_)
    cases hby : (sBl s k).testBit y with
    | true =>
      rw [hby, if_pos rfl] at ih1
      refine zt' (fun a3 e3 => ?_)
      rw [i1, nI_add] at e3
      subst e3
      exact ih1 w S' (by omega) hM hm
    | false =>
      rw [hby, if_neg (by decide)] at ih1
      refine zf' ⟨vp_in_nI hk (by decide), fun w8 e8 => ?_⟩
      rw [nI_clamp (by omega), l_pow (by omega), l_pow (by omega), fb_xorL, fb_xorL] at e8
      have hM8 := hM.trial (S := xS s k x y)
      rw [show upL w 40 k (lN (xS s k x y)) = w8 from e8.symm] at hM8
      refine u_lack (s := tS s k (xS s k x y)) (hs.tr hxl) hM8.1 (by omega) (fun w9 hM9 hm9 => ?_)
      refine pk_le (imY s t k x b0 y).1 (lk (tS s k (xS s k x y)) t) (fun c a6 e6 => ?_) (fun c => ⟨vp_in_nI hk (by decide), fun b12 e12 a13 e13 => ?_⟩)
      · rw [i1, nI_add] at e6
        subst e6
        rw [if_pos c] at ih1
        exact ih1 w9 _ (by omega) hM9 ((hm.tr hM8.2).tr hm9)
      · rw [i1, nI_add] at e13
        subst e13
        have e12' : b12 = lN (xS s k x y) := by
          rw [e12, nI_clamp (by omega), hM9.2.2.1 k hk]
          show lN (bk s k (xS s k x y) k) = _
          rw [show bk s k (xS s k x y) k = xS s k x y from if_pos rfl]
        subst e12'
        rw [if_neg (by omega)] at ih1
        exact ih1 w9 _ (by omega) hM9 ((hm.tr hM8.2).tr hm9)
theorem u_imp_x {s : Sg} {t k : Nat} {b0 : Nat × Nat × Nat} {w0 : Wd} {K : Int32 → Wd → Prop} (hs : WF s) (ht : t ≤ 20) (hk : k < 6) (hb0 : okB s t b0)
    (h : ∀ w, MW s w → Mo allB [] w0 w → E 1 M_B_improve 28 [(0, .ref 39), (1, .int (nI t)), (2, .int (nI (imX s t k b0 (sN s * sM s)).1)), (3, .int (x3v (imX s t k b0 (sN s * sM s)))), (4, .long (lN (imX s t k b0 (sN s * sM s)).2.2)), (6, .int (nI (k + 1)))] [] w (qI 1 K)) :
    ∀ j x w S', x + j = sN s * sM s → MW (tS s k S') w → Mo allB [] w0 w → E 1 M_B_improve 47 [(0, .ref 39), (1, .int (nI t)), (2, .int (nI (imX s t k b0 x).1)), (3, .int (x3v (imX s t k b0 x))), (4, .long (lN (imX s t k b0 x).2.2)), (6, .int (nI k)), (7, .long (lN (sBl s k))), (9, .int (nI x))] [] w (qI 1 K) := by
  have ok := hs.1
  have hv := ok.2.2
  have h40 := pow40 hv
  have hb := hs.bl hk
  intro j
  induction j with
  | zero =>
    intro x w S' hx hM hm
    refine w_B_improve_47 ?_
    rw [hM.1.1.2.2.2]
    refine pk_le (sN s * sM s) x (fun _ => ⟨vp_in_nI hk (by decide), fun w1 e1 a1 e2 => ?_⟩) (fun c => by omega)
    rw [nI_clamp (by omega)] at e1
    rw [i1, nI_add] at e2
    subst e2
    have hM1 := hM.trial (S := sBl s k)
    rw [← e1, bk_same] at hM1
    rw [show x = sN s * sM s by omega]
    exact h w1 hM1.1 (hm.tr hM1.2)
  | succ j ih =>
    intro x w S' hx hM hm
    have hxv : x < sN s * sM s := by omega
    have okb := imX_ok hs hk hb0 x (by omega)
    have ih1 := ih (x + 1)
    rw [imX] at ih1
    refine w_B_improve_47 ?_
    rw [hM.1.1.2.2.2]
    refine pk_le (sN s * sM s) x (fun c => by omega) (fun _ => ?_)
    cases hbx : (sBl s k).testBit x with
    | false =>
      rw [hbx, if_neg (by decide)] at ih1
      refine w_B_improve_59 ?_
      rw [hM.1.1.2.2.2]
      refine pk_le (sN s * sM s) 0 (fun c => by omega) (fun _ => u_has (by omega) (by omega) ?_)
      rw [hbx]
      refine zf (fun a4 e4 => ?_)
      rw [i1, nI_add] at e4
      subst e4
      exact ih1 w S' (by omega) hM hm
    | true =>
      rw [hbx, if_pos rfl] at ih1
      exact u_imp_y hs ht hk hxv hbx okb (fun w2 S2 hM2 hm2 => ih1 w2 S2 (by omega) hM2 hm2) (sN s * sM s) 0 w S' (by omega) hM hm
theorem op_improve : Op_improve INV := by
  rintro a1 w ⟨s, hs⟩
  have hC := hs.2.1
  have h40 := pow40 hs.1.1.2.2
  rcases rg_or 1 20 (by decide) (by decide) a1 with h1 | ⟨t, ht1, ht2, rfl⟩
  · exact glueI (val := -1) (nx := s) hs (r_A_improve (t_wiF rfl rfl h1 (zf' (sameA hC)))) (fun w1 hM => r_B_improve (u_inF rfl rfl rfl h1 (zf' (sameB hM)))) hs.1
  have okb := imK_ok (t := t) hs.1 6 (Nat.le_refl 6)
  have side : ∀ (w1 : Wd) (Q : Int32 → Wd → Prop), MW s w1 → (∀ w2, MW s w2 → Mo allB [] w1 w2 → E 1 M_B_improve 28 [(0, .ref 39), (1, .int (nI t)), (2, .int (nI (imK s t 6).1)), (3, .int (x3v (imK s t 6))), (4, .long (lN (imK s t 6).2.2)), (6, .int (nI 6))] [] w2 (qI 1 Q)) → RunI 1 M_B_improve [.ref 39, .int (nI t)] w1 Q := by
    intro w1 Q hM hQ
    refine r_B_improve (u_inT rfl rfl rfl ht1 ht2 (by decide) (zt' (u_lack hs.1 hM (by omega) (fun w2 hM2 hm2 a5 e5 => ?_))))
    subst e5
    have key : ∀ j k w3, k + j = 6 → MW s w3 → Mo allB [] w1 w3 → E 1 M_B_improve 28 [(0, .ref 39), (1, .int (nI t)), (2, .int (nI (imK s t k).1)), (3, .int (x3v (imK s t k))), (4, .long (lN (imK s t k).2.2)), (6, .int (nI k))] [] w3 (qI 1 Q) := by
      intro j
      induction j with
      | zero =>
        intro k w3 hk hM3 hm3
        rw [show k = 6 by omega]
        exact hQ w3 hM3 hm3
      | succ j ih =>
        intro k w3 hk hM3 hm3
        have hk6 : k < 6 := by omega
        refine w_B_improve_28 (pk_le 6 k (fun c => by omega) (fun _ => ⟨vp_in_nI hk6 (by decide), fun b3 e3 => ?_⟩))
        rw [nI_clamp (by omega), hM3.2.2.1 k hk6] at e3
        subst e3
        refine u_imp_x (w0 := w1) hs.1 ht2 hk6 (imK_ok hs.1 k (by omega)) (fun w4 hM4 hm4 => ih (k + 1) w4 (by omega) hM4 hm4) (sN s * sM s) 0 w3 (sBl s k) (by omega) ?_ hm3
        rw [bk_same]
        exact hM3
    exact key 6 0 w2 (by decide) hM2 hm2
  by_cases h0 : (imK s t 6).2.1 = 0
  · refine glueI (val := -4) (nx := s) hs (r_A_improve (t_wiT rfl rfl ht1 ht2 (by decide) (zt' ?_))) (fun w1 hM => side w1 _ hM (fun w2 hM2 hm2 => w_B_improve_28 ⟨fun _ => ⟨fun c => ?_, fun _ => ⟨rfl, hM2, hm2⟩⟩, fun c => absurd (by decide) c⟩)) hs.1
    · rw [hC.2.1]
      refine t_findBest hs.1 hC ht2 (fun w2 hm2 _ => ?_)
      rw [decide_eq_false (fun c => c h0)]
      exact zf' ⟨rfl, hC.mo (hm2.mono (by decide) (fun _ c => absurd c List.not_mem_nil)), hm2.mono (by decide) (fun _ c => absurd c List.not_mem_nil)⟩
    · rw [show x3v (imK s t 6) = -1 from if_pos h0] at c
      exact absurd c (by decide)
  · obtain ⟨q1, q2, q3, q4⟩ := okb.resolve_left (fun c => h0 c.1)
    have hN : WF (stF s (bk s ((imK s t 6).2.1 - 1) (imK s t 6).2.2)) := hs.1.f (bk_lt hs.1 q4)
    have hkk : (imK s t 6).2.1 - 1 < 6 := by omega
    refine glueI (val := nI (imK s t 6).1) (nx := stF s (bk s ((imK s t 6).2.1 - 1) (imK s t 6).2.2)) hs (r_A_improve (t_wiT rfl rfl ht1 ht2 (by decide) (zt' ?_))) (fun w1 hM => side w1 _ hM (fun w2 hM2 hm2 => w_B_improve_28 ⟨fun _ => ⟨fun _ => ?_, fun c => ?_⟩, fun c => absurd (by decide) c⟩)) hN
    · rw [hC.2.1]
      refine t_findBest hs.1 hC ht2 (fun w2 hm2 hX2 => ?_)
      rw [decide_eq_true h0]
      have hC2 : CW s w2 := hC.mo (hm2.mono (by decide) (fun _ c => absurd c List.not_mem_nil))
      refine zt' (t_note hs.1.hs hC2.2.2.2.1 hC2.2.2.1 (fun w5 hm5 hY5 => ?_))
      have k13 := hm5.pl 13 (by decide) (by decide)
      rw [k13.1, k13.2, (hX2.2 q1).1, (hX2.2 q1).2, nI_clamp (by omega)]
      refine ⟨vp_in_nI hkk (by decide), fun w6 e6 => ?_⟩
      have hB5 := hC2.2.2.1.mo hm5 (by decide)
      have h3 := hC2.f hm5 hY5 (w2 := w6) (f := bk s ((imK s t 6).2.1 - 1) (imK s t 6).2.2) (by rw [e6]; exact (Mo.rf _ _ w5).upL _ (Or.inl (by decide))) (by rw [e6]; exact up_bk hB5)
      refine ⟨?_, h3.1, (hm2.mono (by decide) (fun _ c => absurd c List.not_mem_nil)).tr h3.2⟩
      rw [e6, upL_1, k13.1, hX2.1]
    · rw [show x3v (imK s t 6) = nI ((imK s t 6).2.1 - 1) from if_neg h0]
      exact u_becomes hs.1 hM2 hkk (by omega) (fun w3 h3 h4 => ⟨rfl, h3, hm2.tr h4⟩)
    · rw [show x3v (imK s t 6) = nI ((imK s t 6).2.1 - 1) from if_neg h0, i0] at c
      exact absurd (nI_le (Nat.zero_le _) (by omega)) c
