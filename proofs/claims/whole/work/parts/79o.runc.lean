theorem t_limits {n m ho L : Nat} {w0 : Wd} {K : Wd → Prop} (hG : Gd n m w0) (hho : ho < 2 ^ (n * m)) (h : ∀ w, OnI 27 w0 w → (∀ d, d < n * m → w.1 27 d = nI (lmF ho L d)) → K w) : RunV 1 M_N_setLimits [.ref 24, .long (lN ho), .int (nI L)] w0 K := by
  have ok := hG.1.1
  have hv := ok.2.2
  have h40 := pow40 hv
  have key : ∀ j d w, d + j = n * m → OnI 27 w0 w → (∀ e, e < d → w.1 27 e = nI (lmF ho L e)) → E 1 M_N_setLimits 3 [(0, .ref 24), (1, .long (lN ho)), (3, .int (nI L)), (4, .int (nI d))] [] w (qV 1 K) := by
    intro j
    induction j with
    | zero =>
      intro d w hd hm hL
      refine w_N_setLimits_3 ?_
      rw [hm.1 1 (by decide), hG.1.2.2.2.1]
      exact pk_le (n * m) d (fun _ => h w hm (fun e he => hL e (by omega))) (fun c => by omega)
    | succ j ih =>
      intro d w hd hm hL
      refine w_N_setLimits_3 ?_
      rw [hm.1 1 (by decide), hG.1.2.2.2.1]
      refine pk_le (n * m) d (fun c => by omega) (fun _ => t_holds (by omega) (by omega) ?_)
      have nxt : ∀ w3, w3 = upI w 27 (nI d).toNatClampNeg (nI (lmF ho L d)) → E 1 M_N_setLimits 3 [(0, .ref 24), (1, .long (lN ho)), (3, .int (nI L)), (4, .int (nI (d + 1)))] [] w3 (qV 1 K) := fun w3 e3 => by
        rw [nI_clamp (by omega)] at e3
        refine ih (d + 1) w3 (by omega) (by rw [e3]; exact hm.up _ _) (fun e he => ?_)
        by_cases c : e = d
        · rw [e3, c, upI_eq]
        · rw [e3, upI_ne (by omega)]
          exact hL e (by omega)
      cases hb : ho.testBit d with
      | false =>
        refine zf ⟨vp_in_nI (by omega) (by decide), fun w3 e3 a4 e4 => ?_⟩
        rw [i1, nI_add] at e4
        subst e4
        exact nxt w3 (by rw [e3]; unfold lmF; rw [hb]; rfl)
      | true =>
        refine zt ⟨vp_in_nI (by omega) (by decide), fun w3 e3 a4 e4 => ?_⟩
        rw [i1, nI_add] at e4
        subst e4
        exact nxt w3 (by rw [e3]; unfold lmF; rw [hb]; rfl)
  exact r_N_setLimits (key (n * m) 0 w0 (by omega) (OnI.rf _ _) (fun e he => absurd he (Nat.not_lt_zero e)))
/-- a row of counts -/
def rwN (n m : Nat) (f : Nat → Nat) (l : Nat) (w : Wd) : Prop := ∀ d, d < n * m → d ≠ 0 → w.1 28 (l * 40 + d) = nI (ctF n m f l d)
theorem t_fits {n m ho L a : Nat} {f : Nat → Nat} {w0 : Wd} {K : Bool → Wd → Prop} (hG : Gd n m w0) (ha : a < 4) (hL : L ≤ 9) (hS : f a < 2 ^ (n * m)) (hl : ∀ d, d < n * m → w0.1 27 d = nI (lmF ho L d)) (hr : rwN n m f a w0) (h : ∀ w, OnI 28 w0 w → (∀ i, i < (a + 1) * 40 → w.1 28 i = w0.1 28 i) → (ftB n m ho L f (a + 1) = true → rwN n m f (a + 1) w) → K (ftB n m ho L f (a + 1)) w) : RunZ 1 M_N_fits [.ref 24, .int (nI a), .long (lN (f a))] w0 K := by
  have ok := hG.1.1
  have hv := ok.2.2
  have h40 := pow40 hv
  have hv2 : 2 ≤ n * m := Nat.le_trans ok.1 ok.nv
  have hcb : ∀ d, ctF n m f a d ≤ 240 := fun d => by
    have h1 := ctF_le n m f d a
    have h2 := Nat.mul_le_mul (show a ≤ 6 by omega) hv
    omega
  have key : ∀ j d w, d + 1 + j = n * m → OnI 28 w0 w → (∀ i, i < (a + 1) * 40 → w.1 28 i = w0.1 28 i) → (∀ e, e < d + 1 → e ≠ 0 → w.1 28 ((a + 1) * 40 + e) = nI (ctF n m f (a + 1) e) ∧ ctF n m f (a + 1) e ≤ lmF ho L e) → E 1 M_N_fits 19 [(0, .ref 24), (2, .long (lN (f a))), (4, .int (nI (a * 40))), (5, .int (nI ((a + 1) * 40))), (6, .long (lN (trS n m (f a) d))), (8, .int (nI (d + 1)))] [] w (qZ 1 K) := by
    intro j
    induction j with
    | zero =>
      intro d w hd hm ho2 hr2
      refine w_N_fits_19 ?_
      rw [hm.1 1 (by decide), hG.1.2.2.2.1]
      have hT : ftB n m ho L f (a + 1) = true := decide_eq_true (fun e he e0 => (hr2 e (by omega) e0).2)
      have hK := h w hm ho2 (fun _ e he e0 => (hr2 e (by omega) e0).1)
      rw [hT] at hK
      exact pk_le (n * m) (d + 1) (fun _ => hK) (fun c => by omega)
    | succ j ih =>
      intro d w hd hm ho2 hr2
      have hGw : Gd n m w := hG.mo hm.mo (by decide)
      have hpd := pop_dc ok hS (show 1 ≤ d + 1 by omega) (show d + 1 < n * m by omega)
      have hcd := hcb (d + 1)
      have hdl := dc_le n m (f a) (d + 1) (n * m)
      have hlm := lmF_le ho L (d + 1)
      have hand : f a &&& trS n m (f a) (d + 1) < 2 ^ (n * m) := Nat.lt_of_le_of_lt Nat.and_le_left hS
      refine w_N_fits_19 ?_
      rw [hGw.1.2.2.2.1]
      refine pk_le (n * m) (d + 1) (fun c => by omega) (fun _ => ?_)
      rw [i1, pk_sub (by omega), Nat.add_sub_cancel]
      refine t_onward hGw (by omega) ?_
      rw [Nat.mod_eq_of_lt (show d + 1 < n * m by omega), nI_add, nI_add, fb_andL, nI_clamp (by omega), nI_clamp (by omega), nI_clamp (by omega), ho2 _ (by omega), hr (d + 1) (by omega) (by omega)]
      refine ⟨vp_in_nI (by omega) (by decide), t_bitCount (by omega) (fun a5 e5 => ⟨vp_in_nI (by omega) (by decide), ?_⟩)⟩
      rw [hpd, nI_add, show ctF n m f a (d + 1) + dc n m (f a) (d + 1) (n * m) = ctF n m f (a + 1) (d + 1) from rfl] at e5
      subst e5
      have hsum : ctF n m f (a + 1) (d + 1) = ctF n m f a (d + 1) + dc n m (f a) (d + 1) (n * m) := rfl
      rw [hm.1 27 (by decide), hl (d + 1) (by omega)]
      refine pk_le (ctF n m f (a + 1) (d + 1)) (lmF ho L (d + 1)) (fun c => ⟨vp_in_nI (by omega) (by decide), fun w6 e6 a7 e7 => ?_⟩) (fun c => ?_)
      · rw [nI_add] at e7
        subst e7
        refine ih (d + 1) w6 (by omega) (by rw [e6]; exact hm.up _ _) (fun i hi => by rw [e6, upI_ne (by omega)]; exact ho2 i hi) (fun e he e0 => ?_)
        by_cases ed : e = d + 1
        · rw [e6, ed, upI_eq]
          exact ⟨rfl, c⟩
        · rw [e6, upI_ne (by omega)]
          exact hr2 e (by omega) e0
      · have hF : ftB n m ho L f (a + 1) = false := decide_eq_false (fun q => by
          have := q (d + 1) (by omega) (by omega)
          omega)
        have hK := h w hm ho2 (fun c2 => by rw [hF] at c2; cases c2)
        rw [hF] at hK
        exact hK
  refine r_N_fits (fun a1 e1 a2 e2 => ?_)
  rw [show (40 : Int32) = nI 40 from rfl, pk_mul] at e1
  subst e1
  rw [show (40 : Int32) = nI 40 from rfl, nI_add, show a * 40 + 40 = (a + 1) * 40 by omega] at e2
  subst e2
  have h0 := key (n * m - 1) 0 w0 (by omega) (OnI.rf _ _) (fun _ _ => rfl) (fun e he e0 => absurd he (by omega))
  rw [trS_0 ok hS] at h0
  exact h0
theorem t_comp {n m ho L l : Nat} {f : Nat → Nat} {w : Wd} {K : Bool → Wd → Prop} (hG : Gd n m w) (hl4 : l ≤ 4) (hL : L ≤ 9) (hl : ∀ d, d < n * m → w.1 27 d = nI (lmF ho L d)) (hr : rwN n m f l w) (h : K (cmB n m ho L f l) w) : RunZ 1 M_N_isComplete [.ref 24, .int (nI l)] w K := by
  have ok := hG.1.1
  have hv := ok.2.2
  have hv2 : 2 ≤ n * m := Nat.le_trans ok.1 ok.nv
  have hcb : ∀ d, ctF n m f l d ≤ 240 := fun d => by
    have h1 := ctF_le n m f d l
    have h2 := Nat.mul_le_mul (show l ≤ 6 by omega) hv
    omega
  have key : ∀ j d, d + j = n * m → d ≠ 0 → (∀ e, e < d → e ≠ 0 → ctF n m f l e = lmF ho L e) → E 1 M_N_isComplete 2 [(0, .ref 24), (1, .int (nI l)), (2, .int (nI d))] [] w (qZ 1 K) := by
    intro j
    induction j with
    | zero =>
      intro d hd d0 he
      refine w_N_isComplete_2 ?_
      rw [hG.1.2.2.2.1]
      rw [show cmB n m ho L f l = true from decide_eq_true (fun e h1 h2 => he e (by omega) h2)] at h
      exact pk_le (n * m) d (fun _ => h) (fun c => by omega)
    | succ j ih =>
      intro d hd d0 he
      have h1 := hcb d
      have h2 := lmF_le ho L d
      refine w_N_isComplete_2 ?_
      rw [hG.1.2.2.2.1, show (40 : Int32) = nI 40 from rfl, pk_mul, nI_add, nI_clamp (by omega), nI_clamp (by omega), hr d (by omega) d0, hl d (by omega)]
      refine pk_le (n * m) d (fun c => by omega) (fun _ => ⟨vp_in_nI (by omega) (by decide), vp_in_nI (by omega) (by decide), pk_eq (ctF n m f l d) (lmF ho L d) (fun c a1 e1 => ?_) (fun c => ?_)⟩)
      · rw [i1, nI_add] at e1
        subst e1
        refine ih (d + 1) (by omega) (by omega) (fun e h3 h4 => ?_)
        by_cases ed : e = d
        · rw [ed]; exact c
        · exact he e (by omega) h4
      · rw [show cmB n m ho L f l = false from decide_eq_false (fun q => c (q d (by omega) d0))] at h
        exact h
  exact r_N_isComplete (key (n * m - 1) 1 (by omega) (by omega) (fun e h1 h2 => absurd h1 (by omega)))
theorem nI_n0 {c : Nat} (h : c < 2 ^ 31) : ¬ nI c < 0 := by
  rw [i0, nI_ltI h (by decide)]
  omega
/-- the world of a search on the way -/
def lnI (l : Nat) : Int32 := if l = 0 then -1 else nI (l - 1)
theorem lnI_s (a : Nat) : lnI (a + 1) = nI a := if_neg (by omega)
theorem lnI_p (a : Nat) : nI a + (-1) = lnI a := by
  cases a with
  | zero => rfl
  | succ a => rw [pk_m1, lnI_s]
def fsF (c : Nat) (fs : Nat → Nat) (k : Nat) : Nat := if k < c then fs k else 0
def cRw (n m ho L N c : Nat) (cd : Nat → Nat) (l : Nat) (nx ch : Nat → Nat) (md so : Nat) (fs : Nat → Nat) (w : Wd) : Prop :=
  w.1 24 8 = nI N ∧ w.1 24 9 = nI md ∧ w.1 24 10 = nI so ∧ (∀ i, i < N → w.2 25 i = lN (cd i)) ∧ (∀ d, d < n * m → w.1 27 d = nI (lmF ho L d)) ∧ (∀ i, i < l → w.1 29 i = nI (nx i)) ∧ (∀ i, i + 1 < l → w.2 30 i = lN (ch i)) ∧ (∀ i, i < l → rwN n m ch i w) ∧ (∀ d, d < 40 → w.1 28 d = 0) ∧ (0 < so → ∀ k, k < 6 → w.2 31 k = lN (fsF c fs k)) ∧ (so = 0 → ∀ k, k < 6 → w.2 31 k = 0)
theorem rwN.up {n m l a x : Nat} {ch : Nat → Nat} {w w2 : Wd} (h : rwN n m ch l w) (hl : l ≤ a) (ho : ∀ i, i < (a + 1) * 40 → w2.1 28 i = w.1 28 i) (hv : n * m ≤ 40) : rwN n m (upF ch a x) l w2 := fun d hd d0 => by
  have : l * 40 ≤ a * 40 := Nat.mul_le_mul_right 40 hl
  rw [ho _ (by omega), ctF_up hl]
  exact h d hd d0
theorem t_run {n m ho L N c S : Nat} {cd : Nat → Nat} {w0 : Wd} {K : Wd → Prop} (hG : Gd n m w0) (hL : L ≤ 9) (hN : N ≤ 2130) (hc4 : c ≤ 4) (hS : S ≤ 5000) (hcd : ∀ i, i < N → cd i ≠ 0 ∧ cd i < 2 ^ (n * m)) :
    ∀ f tn l nx ch md so fs w, tn + f = 2 * S + 1 → tn + l ≤ 2 * md + 1 → SI n m N c S (2 ^ (n * m)) l nx ch md so fs → cRw n m ho L N c cd l nx ch md so fs w → Mo [24, 28, 29, 30, 31] [] w0 w → (∀ j, j ≠ 9 → j ≠ 10 → w.1 24 j = w0.1 24 j) →
      (∀ w' md' so' fs', (md', so', fs') = srR n m ho L N c S cd f l nx ch md so fs → w'.1 24 9 = nI md' → w'.1 24 10 = nI so' → (∀ d, d < 40 → w'.1 28 d = 0) → (0 < so' → ∀ k, k < 6 → w'.2 31 k = lN (fsF c fs' k)) → Mo [24, 28, 29, 30, 31] [] w0 w' → (∀ j, j ≠ 9 → j ≠ 10 → w'.1 24 j = w0.1 24 j) → K w') →
      E 1 M_N_run 37 [(0, .ref 24), (1, .int (nI c)), (2, .int (nI S)), (3, .int (lnI l)), (4, .int (nI (2 * S + 1))), (5, .int (nI tn))] [] w (qV 1 K) := by
  have ok := hG.1.1
  have hv := ok.2.2
  have h40 := pow40 hv
  intro f
  induction f with
  | zero =>
    intro tn l nx ch md so fs w htn htl hI hR hm hm24 hK
    exact w_N_run_37 (pk_le (2 * S + 1) tn (fun _ => hK w md so fs (by rw [srR]) hR.2.1 hR.2.2.1 hR.2.2.2.2.2.2.2.2.1 hR.2.2.2.2.2.2.2.2.2.1 hm hm24) (fun c => by omega))
  | succ f ih =>
    intro tn l nx ch md so fs w htn htl hI hR hm hm24 hK
    have hGw : Gd n m w := hG.mo hm (by decide)
    have hI' := hI
    obtain ⟨j1, j2, j3, j4, j5, j6⟩ := hI'
    obtain ⟨r1, r2, r3, r4, r5, r6, r7, r8, r9, r10, r11⟩ := hR
    refine w_N_run_37 (pk_le (2 * S + 1) tn (fun c => by omega) (fun _ => ?_))
    cases l with
    | zero =>
      refine ⟨fun _ => hK w md so fs (by rw [srR]) r2 r3 r9 r10 hm hm24, fun c => absurd (show lnI 0 < 0 by decide) c⟩
    | succ a =>
      rw [srR] at hK
      rw [lnI_s]
      have hna := j4 a (by omega)
      rw [r2, nI_clamp (by omega), r1, r6 a (by omega), lnI_p]
      refine pk_lt a 0 (fun c => by omega) (fun _ => pk_le S md (fun c1 => ?_) (fun c1 => ⟨vp_in_nI (by omega) (by decide), pk_le N (nx a) (fun c2 a1 e1 a2 e2 => ?_) (fun c2 => ?_)⟩))
      · rw [if_pos c1] at hK
        exact hK w md so fs rfl r2 r3 r9 r10 hm hm24
      · rw [if_neg (by omega), if_pos c2] at hK
        subst e1
        rw [i1, nI_add] at e2
        subst e2
        exact ih (tn + 1) a nx ch md so fs w (by omega) (by omega) hI.back ⟨r1, r2, r3, r4, r5, fun i hi => r6 i (by omega), fun i hi => r7 i (by omega), fun i hi => r8 i (by omega), r9, r10, r11⟩ hm hm24 hK
      · rw [if_neg (by omega), if_neg (by omega)] at hK
        have hx := hcd (nx a) c2
        generalize hxe : cd (nx a) = x at hx hK
        refine r_N_tryNext ?_
        rw [nI_clamp (by omega), r6 a (by omega)]
        refine ⟨vp_in_nI (by omega) (by decide), fun a1 e1 => ⟨vp_in_nI (by omega) (by decide), vp_in_nI (by omega) (by decide), fun w2 e2 w3 e3 => ?_⟩⟩
        subst e1
        rw [i1, nI_add] at e2
        have q2 : w2.1 24 9 = nI md := by rw [e2, upI_ne (by omega)]; exact r2
        rw [q2, i1, nI_add] at e3
        rw [nI_clamp (by omega)]
        have q3 : w3.2 25 (nx a) = lN x := by rw [e3, upI_2, e2, upI_2, r4 (nx a) c2, hxe]
        rw [q3]
        refine ⟨vp_in_nI (by omega) (by decide), vp_in_nI (by omega) (by decide), fun w4 e4 => ⟨vp_in_nI (by omega) (by decide), ?_⟩⟩
        have q4 : w4.2 25 (nx a) = lN x := by rw [e4, upL_ne (by omega)]; exact q3
        rw [q4]
        have m4 : Mo [24, 28, 29, 30, 31] [] w0 w4 := by
          rw [e4, e3, e2]
          exact ((hm.upI _ (Or.inl (by decide))).upI _ (Or.inl (by decide))).upL _ (Or.inl (by decide))
        have b1 : ∀ p k, p ≠ 24 → p ≠ 29 → w4.1 p k = w.1 p k := fun p k h1 h2 => by rw [e4, upL_1, e3, upI_ne (by omega), e2, upI_ne (by omega)]
        have b2 : ∀ p k, p ≠ 30 → w4.2 p k = w.2 p k := fun p k h1 => by rw [e4, upL_ne (by omega), e3, upI_2, e2, upI_2]
        have b24 : ∀ k, k ≠ 9 → w4.1 24 k = w.1 24 k := fun k h1 => by rw [e4, upL_1, e3, upI_ne (by omega), e2, upI_ne (by omega)]
        have b249 : w4.1 24 9 = nI (md + 1) := by rw [e4, upL_1, e3, upI_eq]
        have b29 : ∀ i, i < a + 1 → w4.1 29 i = nI (upF nx a (nx a + 1) i) := fun i hi => by
          rw [e4, upL_1, e3, upI_ne (by omega), e2]
          by_cases e : i = a
          · rw [e, upI_eq, upF_eq]
          · rw [upI_ne (by omega), upF_ne e]
            exact r6 i hi
        have b30 : ∀ i, i < a + 1 → w4.2 30 i = lN (upF ch a x i) := fun i hi => by
          rw [e4]
          by_cases e : i = a
          · rw [e, upL_eq, upF_eq]
          · rw [upL_ne (by omega), e3, upI_2, e2, upI_2, upF_ne e]
            exact r7 i (by omega)
        have hG4 : Gd n m w4 := hG.mo m4 (by decide)
        have h4l : ∀ d, d < n * m → w4.1 27 d = nI (lmF ho L d) := fun d hd => by rw [b1 27 d (by decide) (by decide)]; exact r5 d hd
        have h4r : ∀ i, i < a + 1 → rwN n m (upF ch a x) i w4 := fun i hi => (r8 i hi).up (by omega) (fun k _ => b1 28 k (by decide) (by decide)) hv
        have hfa : upF ch a x a = x := upF_eq ch a x
        rw [← hfa]
        refine t_fits (ho := ho) (L := L) (f := upF ch a x) (w0 := w4) hG4 (show a < 4 by omega) hL (by rw [hfa]; exact hx.2) h4l (h4r a (by omega)) (fun w5 hm5 ho5 hr5 => ?_)
        have m5 : Mo [24, 28, 29, 30, 31] [] w0 w5 := m4.tr (hm5.mo.mono (by decide) (fun _ c => absurd c List.not_mem_nil))
        have m524 : ∀ j, j ≠ 9 → j ≠ 10 → w5.1 24 j = w0.1 24 j := fun j h1 h2 => by rw [hm5.1 24 (by decide), b24 j h1]; exact hm24 j h1 h2
        have c51 : ∀ p k, p ≠ 28 → w5.1 p k = w4.1 p k := fun p k h => by rw [hm5.1 p h]
        have c52 : ∀ p k, w5.2 p k = w4.2 p k := fun p k => by rw [hm5.2]
        have r5r : ∀ i, i < a + 1 → rwN n m (upF ch a x) i w5 := fun i hi d hd d0 => by
          have : i * 40 ≤ a * 40 := Nat.mul_le_mul_right 40 (by omega)
          rw [ho5 _ (by omega)]
          exact h4r i hi d hd d0
        have base : cRw n m ho L N c cd (a + 1) (upF nx a (nx a + 1)) (upF ch a x) (md + 1) so fs w5 := by
          refine ⟨by rw [c51 24 8 (by decide), b24 8 (by decide)]; exact r1, by rw [c51 24 9 (by decide)]; exact b249, by rw [c51 24 10 (by decide), b24 10 (by decide)]; exact r3, fun i hi => by rw [c52, b2 25 i (by decide)]; exact r4 i hi, fun d hd => by rw [c51 27 d (by decide)]; exact h4l d hd, fun i hi => by rw [c51 29 i (by decide)]; exact b29 i hi, fun i hi => by rw [c52]; exact b30 i (by omega), r5r, fun d hd => by rw [ho5 d (by omega), b1 28 d (by decide) (by decide)]; exact r9 d hd, fun h1 k hk => by rw [c52, b2 31 k (by decide)]; exact r10 h1 k hk, fun h1 k hk => by rw [c52, b2 31 k (by decide)]; exact r11 h1 k hk⟩
        cases hft : ftB n m ho L (upF ch a x) (a + 1) with
        | false =>
          rw [hft, if_neg (by decide)] at hK
          refine zf' (fun a5 e5 => ?_)
          rw [i1, nI_add] at e5
          subst e5
          rw [← lnI_s a]
          exact ih (tn + 1) (a + 1) _ _ (md + 1) so fs w5 (by omega) (by omega) (hI.stay c1 c2 x) base m5 m524 hK
        | true =>
          rw [hft, if_pos rfl] at hK
          refine zt' ?_
          rw [show nI a + 1 = nI (a + 1) by rw [i1, nI_add]]
          refine pk_le c (a + 1) (fun c4 => ?_) (fun c4 => ⟨vp_in_nI (by omega) (by decide), fun w10 e10 a5 e5 => ?_⟩)
          · rw [if_pos c4] at hK
            have hca : c = a + 1 := by omega
            refine t_comp (ho := ho) (L := L) (f := upF ch a x) (hG.mo m5 (by decide)) hc4 hL base.2.2.2.2.1 (by rw [hca]; exact hr5 hft) ?_
            cases hcm : cmB n m ho L (upF ch a x) (a + 1) with
            | false =>
              rw [hcm, if_neg (by decide)] at hK
              rw [hca, hcm]
              refine zf (fun a5 e5 => ?_)
              rw [i1, nI_add] at e5
              subst e5
              rw [← lnI_s a, ← hca]
              rw [← hca] at hK
              have hI2 := hI.stay c1 c2 x
              have b2 := base
              rw [← hca] at hI2 b2
              exact ih (tn + 1) c _ _ (md + 1) so fs w5 (by omega) (by omega) hI2 b2 m5 m524 hK
            | true =>
              rw [hcm, if_pos rfl] at hK
              rw [hca, hcm, ← hca]
              have hI2 := hI.found c1 c2 hx.1 hx.2 c4
              have q5 := base.2.2.1
              have fin : ∀ w7, Mo [24, 31] [] w5 w7 → w7.1 24 10 = nI (so + 1) → (∀ j, j ≠ 10 → w7.1 24 j = w5.1 24 j) → (∀ k, k < 6 → w7.2 31 k = lN (fsF c (if so = 0 then upF ch a x else fs) k)) → ∀ a5 : Int32, a5 = nI tn + 1 → E 1 M_N_run 37 [(0, .ref 24), (1, .int (nI c)), (2, .int (nI S)), (3, .int (nI a)), (4, .int (nI (2 * S + 1))), (5, .int a5)] [] w7 (qV 1 K) := by
                intro w7 m7 h10 h24 h31 a5 e5
                rw [i1, nI_add] at e5
                subst e5
                rw [← lnI_s a]
                obtain ⟨s1, s2, s3, s4, s5, s6, s7, s8, s9, s10, s11⟩ := base
                refine ih (tn + 1) (a + 1) _ _ (md + 1) (so + 1) _ w7 (by omega) (by omega) hI2 ⟨by rw [h24 8 (by decide)]; exact s1, by rw [h24 9 (by decide)]; exact s2, h10, fun i hi => by rw [(m7.pl 25 (by decide) (by decide)).2]; exact s4 i hi, fun d hd => by rw [(m7.pl 27 (by decide) (by decide)).1]; exact s5 d hd, fun i hi => by rw [(m7.pl 29 (by decide) (by decide)).1]; exact s6 i hi, fun i hi => by rw [(m7.pl 30 (by decide) (by decide)).2]; exact s7 i hi, fun i hi d hd d0 => by rw [(m7.pl 28 (by decide) (by decide)).1]; exact s8 i hi d hd d0, fun d hd => by rw [(m7.pl 28 (by decide) (by decide)).1]; exact s9 d hd, fun _ => h31, fun h => absurd h (by omega)⟩ (m5.tr (m7.mono (by decide) (fun _ c => absurd c List.not_mem_nil))) (fun j h1 h2 => by rw [h24 j h2]; exact m524 j h1 h2) hK
              refine zt (r_N_noteSolution ?_)
              rw [q5]
              by_cases s0 : so = 0
              · refine ⟨fun c => absurd (by rw [s0]; rfl) c, fun _ => ⟨⟨by decide, by decide, nI_n0 (by omega), ?_, ?_⟩, fun w7 e7 w8 e8 => ?_⟩⟩
                · rw [nI_clamp (by omega)]
                  show 0 + c ≤ 4
                  omega
                · rw [nI_clamp (by omega)]
                  show 0 + c ≤ 6
                  omega
                · rw [nI_clamp (by omega)] at e7
                  have e7' : w7 = cpL w5 30 31 0 0 c := e7
                  have q7 : w7.1 24 10 = nI so := by rw [e7']; exact q5
                  rw [q7, i1, nI_add] at e8
                  refine fin w8 (by rw [e8, e7']; exact ((Mo.rf _ _ _).cp _ _ _ (by decide)).upI _ (Or.inl (by decide))) (by rw [e8, upI_eq]) (fun j hj => by rw [e8, upI_ne (by omega), e7']; rfl) (fun k hk => ?_)
                  rw [e8, upI_2, e7', if_pos s0]
                  unfold fsF
                  by_cases kc : k < c
                  · rw [if_pos kc, cpL_in (Nat.zero_le k) (by omega), Nat.zero_add, Nat.sub_zero, c52]
                    exact b30 k (by omega)
                  · rw [if_neg kc, cpL_out (by omega), c52, b2 31 k (by decide)]
                    exact r11 s0 k hk
              · refine ⟨fun _ w7 e7 => ?_, fun c => absurd (nI_z (by omega) c) s0⟩
                rw [i1, nI_add] at e7
                refine fin w7 (by rw [e7]; exact (Mo.rf _ _ _).upI _ (Or.inl (by decide))) (by rw [e7, upI_eq]) (fun j hj => by rw [e7, upI_ne (by omega)]) (fun k hk => ?_)
                rw [e7, upI_2, if_neg s0]
                exact base.2.2.2.2.2.2.2.2.2.1 (by omega) k hk
          · rw [if_neg (by omega)] at hK
            rw [i1, nI_add] at e5
            subst e5
            rw [nI_clamp (by omega)] at e10
            rw [← lnI_s (a + 1)]
            obtain ⟨s1, s2, s3, s4, s5, s6, s7, s8, s9, s10, s11⟩ := base
            refine ih (tn + 1) (a + 2) _ _ (md + 1) so fs w10 (by omega) (by omega) (hI.down c1 c2 hx.1 hx.2 c4) ⟨by rw [e10, upI_ne (by omega)]; exact s1, by rw [e10, upI_ne (by omega)]; exact s2, by rw [e10, upI_ne (by omega)]; exact s3, fun i hi => by rw [e10, upI_2]; exact s4 i hi, fun d hd => by rw [e10, upI_ne (by omega)]; exact s5 d hd, fun i hi => ?_, fun i hi => ?_, fun i hi d hd d0 => ?_, fun d hd => by rw [e10, upI_ne (by omega)]; exact s9 d hd, fun h1 k hk => by rw [e10, upI_2]; exact s10 h1 k hk, fun h1 k hk => by rw [e10, upI_2]; exact s11 h1 k hk⟩ (by rw [e10]; exact m5.upI _ (Or.inl (by decide))) (fun j h1 h2 => by rw [e10, upI_ne (by omega)]; exact m524 j h1 h2) hK
            · by_cases e : i = a + 1
              · rw [e10, e, upI_eq, upF_eq]
              · rw [e10, upI_ne (by omega), upF_ne e]
                exact s6 i (by omega)
            · rw [e10, upI_2, c52]
              exact b30 i (by omega)
            · rw [e10, upI_ne (by omega)]
              by_cases e : i = a + 1
              · rw [e]
                exact hr5 hft d hd d0
              · exact s8 i (by omega) d hd d0
