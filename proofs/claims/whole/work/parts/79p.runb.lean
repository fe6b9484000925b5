theorem u_part {s : Sg} {l L : Nat} {f : Nat → Nat} {w0 : Wd} {K : Bool → Wd → Prop} (hs : WF s) (hB : Bg (sN s) (sM s) w0) (hH : w0.2 39 3 = lN (sHo s)) (hl : l ≤ 4) (hL : L ≤ 9) (hf : ∀ k, k < l → w0.2 55 k = lN (f k) ∧ f k < 2 ^ (sN s * sM s)) (h : ∀ w, OnI 48 w0 w → (∀ d, d < 40 → w.1 48 d = nI (ctF (sN s) (sM s) f l d)) → K (ftB (sN s) (sM s) (sHo s) L f l) w) : RunZ 1 M_B_isPartial [.ref 39, .int (nI l), .int (nI L)] w0 K := by
  have ok := hs.1
  have hv := ok.2.2
  have h40 := pow40 hv
  have hho := hs.2.1
  have hv2 : 2 ≤ sN s * sM s := Nat.le_trans ok.1 ok.nv
  have hcb : ∀ d, ctF (sN s) (sM s) f l d ≤ 240 := fun d => by
    have h1 := ctF_le (sN s) (sM s) f d l
    have h2 := Nat.mul_le_mul (show l ≤ 6 by omega) hv
    omega
  refine r_B_isPartial (u_counts (n0 := 4) rfl (by decide) hB hl (by decide) hf (fun w hm hc => ?_))
  have hBw : Bg (sN s) (sM s) w := hB.on hm (by decide)
  have hHw : w.2 39 3 = lN (sHo s) := by rw [hm.2]; exact hH
  have hK := h w hm hc
  have key : ∀ j d (b : Bool), d + j = sN s * sM s → d ≠ 0 → (b = true ↔ ∀ e, e < d → e ≠ 0 → ctF (sN s) (sM s) f l e ≤ lmF (sHo s) L e) → E 1 M_B_isPartial 14 [(0, .ref 39), (2, .int (nI L)), (3, .int (bI b)), (4, .int (nI d))] [] w (qZ 1 K) := by
    intro j
    induction j with
    | zero =>
      intro d b hd d0 hb
      refine w_B_isPartial_14 ?_
      rw [hBw.2.2.2]
      refine pk_le (sN s * sM s) d (fun _ => ⟨b, rfl, ?_⟩) (fun c => by omega)
      have e : ftB (sN s) (sM s) (sHo s) L f l = b := by
        apply Bool.eq_iff_iff.mpr
        rw [hb]
        unfold ftB
        rw [decide_eq_true_eq, show d = sN s * sM s by omega]
      rw [e] at hK
      exact hK
    | succ j ih =>
      intro d b hd d0 hb
      have hcd := hcb d
      have nxt : ∀ (b2 : Bool) (x : Int32), x = bI b2 → (b2 = true ↔ (b = true ∧ ctF (sN s) (sM s) f l d ≤ lmF (sHo s) L d)) → ∀ a1 : Int32, a1 = nI d + 1 → E 1 M_B_isPartial 14 [(0, .ref 39), (2, .int (nI L)), (3, .int x), (4, .int a1)] [] w (qZ 1 K) := by
        intro b2 x ex hb2 a1 e1
        rw [i1, nI_add] at e1
        subst e1
        subst ex
        refine ih (d + 1) b2 (by omega) (by omega) ?_
        rw [hb2, hb]
        constructor
        · rintro ⟨h1, h2⟩ e he e0
          by_cases ed : e = d
          · rw [ed]; exact h2
          · exact h1 e (by omega) e0
        · intro h1
          exact ⟨fun e he e0 => h1 e (by omega) e0, h1 d (by omega) d0⟩
      refine w_B_isPartial_14 ?_
      rw [hBw.2.2.2, nI_clamp (by omega), hc d (by omega), hHw]
      refine pk_le (sN s * sM s) d (fun c => by omega) (fun _ => ?_)
      cases b with
      | false =>
        exact ⟨fun _ => nxt false 0 rfl ⟨fun c => absurd c (by decide), fun c => absurd c.1 (by decide)⟩, fun c => absurd rfl c⟩
      | true =>
        refine ⟨fun c => absurd c (by decide), fun _ => ⟨vp_in_nI (by omega) (by decide), u_has (by omega) (by omega) ?_⟩⟩
        unfold lmF at nxt
        cases hbd : (sHo s).testBit d with
        | false =>
          rw [hbd, if_neg (by decide)] at nxt
          refine zf (pk_lt L (ctF (sN s) (sM s) f l d) (fun c => ?_) (fun c => ?_))
          · exact nxt false 0 rfl ⟨fun c => absurd c (by decide), fun c2 => absurd c2.2 (by omega)⟩
          · exact nxt true 1 rfl ⟨fun _ => ⟨rfl, c⟩, fun _ => rfl⟩
        | true =>
          rw [hbd, if_pos rfl] at nxt
          refine zt (pk_lt 0 (ctF (sN s) (sM s) f l d) (fun c => ?_) (fun c => ?_))
          · exact nxt false 0 rfl ⟨fun c => absurd c (by decide), fun c2 => absurd c2.2 (by omega)⟩
          · exact nxt true 1 rfl ⟨fun _ => ⟨rfl, c⟩, fun _ => rfl⟩
  exact key (sN s * sM s - 1) 1 true (by omega) (by omega) ⟨fun _ e he e0 => absurd he (by omega), fun _ => rfl⟩
def mRw (c : Nat) (l : Nat) (nx ch : Nat → Nat) (md so : Nat) (fs : Nat → Nat) (w : Wd) : Prop :=
  w.1 39 14 = nI md ∧ w.1 39 16 = nI (if so = 0 then 0 else c) ∧ (∀ i, i < l → w.1 56 i = nI (nx i)) ∧ (∀ i, i + 1 < l → w.2 55 i = lN (ch i)) ∧ (0 < so → ∀ k, k < c → w.2 47 k = lN (fs k))
/-- the way of the reference -/
theorem u_run {s : Sg} {L N c S : Nat} {cd : Nat → Nat} {w0 : Wd} {K : Int32 → Wd → Prop} (hs : WF s) (hB0 : Bg (sN s) (sM s) w0) (hH0 : w0.2 39 3 = lN (sHo s)) (hN0 : w0.1 39 15 = nI N) (h54 : ∀ i, i < N → w0.2 54 i = lN (cd i)) (hL0 : L ≠ 0) (hL : L ≤ 9) (hN : N ≤ 2130) (hc0 : c ≠ 0) (hc4 : c ≤ 4) (hS : S ≤ 5000) (hcd : ∀ i, i < N → cd i ≠ 0 ∧ cd i < 2 ^ (sN s * sM s)) (hcp : ∀ i, i < N → 2 ≤ pop (cd i)) :
    ∀ f tn l nx ch md so fs w, tn + f = 2 * S + 1 → tn + l ≤ 2 * md + 1 → SI (sN s) (sM s) N c S (2 ^ (sN s * sM s)) l nx ch md so fs → (∀ i, i + 1 < l → 2 ≤ pop (ch i)) → mRw c l nx ch md so fs w → Mo [47, 48, 55, 56] [14, 16] w0 w →
      (∀ w' md' so' fs', (md', so', fs') = srR (sN s) (sM s) (sHo s) L N c S cd f l nx ch md so fs → w'.1 39 14 = nI md' → w'.1 39 16 = nI (if so' = 0 then 0 else c) → (0 < so' → ∀ k, k < c → w'.2 47 k = lN (fs' k)) → Mo [47, 48, 55, 56] [14, 16] w0 w' → K (nI so') w') →
      E 1 M_B_searches 23 [(0, .ref 39), (1, .int (nI L)), (2, .int (nI c)), (3, .int (nI S)), (4, .int (nI so)), (5, .int (lnI l))] [] w (qI 1 K) := by
  have ok := hs.1
  have hv := ok.2.2
  have h40 := pow40 hv
  intro f
  induction f with
  | zero =>
    intro tn l nx ch md so fs w htn htl hI hP hR hm hK
    obtain ⟨r1, r2, r3, r4, r5⟩ := hR
    have hmd := hI.2.1
    have hl0 : l = 0 := by omega
    subst hl0
    exact w_B_searches_23 ⟨fun _ => hK w md so fs (by rw [srR]) r1 r2 r5 hm, fun c => absurd (show lnI 0 < 0 by decide) c⟩
  | succ f ih =>
    intro tn l nx ch md so fs w htn htl hI hP hR hm hK
    have hI' := hI
    obtain ⟨j1, j2, j3, j4, j5, j6⟩ := hI'
    obtain ⟨r1, r2, r3, r4, r5⟩ := hR
    refine w_B_searches_23 ?_
    cases l with
    | zero =>
      exact ⟨fun _ => hK w md so fs (by rw [srR]) r1 r2 r5 hm, fun c => absurd (show lnI 0 < 0 by decide) c⟩
    | succ a =>
      rw [srR] at hK
      rw [lnI_s]
      have hna := j4 a (by omega)
      have hNw : w.1 39 15 = nI N := by rw [(hm.sl 15 (by decide) (by decide)).1]; exact hN0
      rw [r1, nI_clamp (by omega), hNw, r3 a (by omega), lnI_p]
      refine pk_lt a 0 (fun c => by omega) (fun _ => pk_le S md (fun c1 => ?_) (fun c1 => ⟨vp_in_nI (by omega) (by decide), ?_⟩))
      · rw [if_pos c1] at hK
        exact hK w md so fs rfl r1 r2 r5 hm
      refine ⟨fun c2' => ?_, fun c2' a13 e13 => ?_⟩
      · have c2 : nx a < N := by
          have : nx a ≠ N := fun e => c2' (by rw [e])
          omega
        rw [if_neg (by omega), if_neg (by omega)] at hK
        have hx := hcd (nx a) c2
        have hxp := hcp (nx a) c2
        have hx54 := h54 (nx a) c2
        generalize cd (nx a) = x at hx hK hxp hx54
        refine ⟨vp_in_nI (by omega) (by decide), fun a1 e1 => ⟨vp_in_nI (by omega) (by decide), vp_in_nI (by omega) (by decide), fun w2 e2 w3 e3 => ?_⟩⟩
        subst e1
        rw [i1, nI_add] at e2
        have q2 : w2.1 39 14 = nI md := by rw [e2, upI_ne (by omega)]; exact r1
        rw [q2, i1, nI_add] at e3
        rw [nI_clamp (by omega)]
        have q3 : w3.2 54 (nx a) = lN x := by rw [e3, upI_2, e2, upI_2, (hm.pl 54 (by decide) (by decide)).2]; exact hx54
        rw [q3]
        refine ⟨vp_in_nI (by omega) (by decide), vp_in_nI (by omega) (by decide), fun w4 e4 => ?_⟩
        have m4 : Mo [47, 48, 55, 56] [14, 16] w0 w4 := by
          rw [e4, e3, e2]
          exact ((hm.upI _ (Or.inl (by decide))).upI _ (Or.inr (by decide))).upL _ (Or.inl (by decide))
        have hfa : upF ch a x a = x := upF_eq ch a x
        have b39 : w4.1 39 14 = nI (md + 1) := by rw [e4, upL_1, e3, upI_eq]
        have b16 : w4.1 39 16 = nI (if so = 0 then 0 else c) := by rw [e4, upL_1, e3, upI_ne (by omega), e2, upI_ne (by omega)]; exact r2
        have b47 : ∀ k, w4.2 47 k = w.2 47 k := fun k => by rw [e4, upL_ne (by omega), e3, upI_2, e2, upI_2]
        have b56 : ∀ i, i < a + 1 → w4.1 56 i = nI (upF nx a (nx a + 1) i) := fun i hi => by
          rw [e4, upL_1, e3, upI_ne (by omega), e2]
          by_cases e : i = a
          · rw [e, upI_eq, upF_eq]
          · rw [upI_ne (by omega), upF_ne e]
            exact r3 i hi
        have b55 : ∀ i, i < a + 1 → w4.2 55 i = lN (upF ch a x i) := fun i hi => by
          rw [e4]
          by_cases e : i = a
          · rw [e, upL_eq, upF_eq]
          · rw [upL_ne (by omega), e3, upI_2, e2, upI_2, upF_ne e]
            exact r4 i (by omega)
        have hch : ∀ i, i < a + 1 → upF ch a x i < 2 ^ (sN s * sM s) ∧ 2 ≤ pop (upF ch a x i) := fun i hi => by
          by_cases e : i = a
          · rw [e, upF_eq]
            exact ⟨hx.2, hxp⟩
          · rw [upF_ne e]
            exact ⟨(j5 i (by omega)).2, hP i (by omega)⟩
        have bgm : ∀ {w : Wd}, Mo [47, 48, 55, 56] [14, 16] w0 w → Bg (sN s) (sM s) w ∧ w.2 39 3 = lN (sHo s) := fun hm => ⟨⟨hB0.1, by rw [(hm.sl 0 (by decide) (by decide)).1]; exact hB0.2.1, by rw [(hm.sl 1 (by decide) (by decide)).1]; exact hB0.2.2.1, by rw [(hm.sl 2 (by decide) (by decide)).1]; exact hB0.2.2.2⟩, by rw [(hm.sl 3 (by decide) (by decide)).2]; exact hH0⟩
        rw [show nI a + 1 = nI (a + 1) by rw [i1, nI_add]]
        refine u_part (f := upF ch a x) hs (bgm m4).1 (bgm m4).2 (show a + 1 ≤ 4 by omega) hL (fun k hk => ⟨b55 k hk, (hch k hk).1⟩) (fun w5 hm5 hc5 => ?_)
        have m5 : Mo [47, 48, 55, 56] [14, 16] w0 w5 := m4.tr (hm5.mo.mono (by decide) (fun _ c => absurd c List.not_mem_nil))
        have c51 : ∀ p k, p ≠ 48 → w5.1 p k = w4.1 p k := fun p k h => by rw [hm5.1 p h]
        have c52 : ∀ p k, w5.2 p k = w4.2 p k := fun p k => by rw [hm5.2]
        have base : mRw c (a + 1) (upF nx a (nx a + 1)) (upF ch a x) (md + 1) so fs w5 := ⟨by rw [c51 39 14 (by decide)]; exact b39, by rw [c51 39 16 (by decide)]; exact b16, fun i hi => by rw [c51 56 i (by decide)]; exact b56 i hi, fun i hi => by rw [c52]; exact b55 i (by omega), fun h1 k hk => by rw [c52, b47]; exact r5 h1 k hk⟩
        have hP2 : ∀ i, i + 1 < a + 2 → 2 ≤ pop (upF ch a x i) := fun i hi => (hch i (by omega)).2
        cases hft : ftB (sN s) (sM s) (sHo s) L (upF ch a x) (a + 1) with
        | false =>
          rw [hft, if_neg (by decide)] at hK
          refine zf' ?_
          rw [← lnI_s a]
          exact ih (tn + 1) (a + 1) _ _ (md + 1) so fs w5 (by omega) (by omega) (hI.stay c1 c2 x) (fun i hi => hP2 i (by omega)) base m5 hK
        | true =>
          rw [hft, if_pos rfl] at hK
          refine zt' (pk_le c (a + 1) (fun c4 => ?_) (fun c4 a11 e11 => ?_))
          · rw [if_pos c4] at hK
            have hcb : ∀ d, ctF (sN s) (sM s) (upF ch a x) (a + 1) d ≤ 1000 := fun d => by
              have h1 := ctF_le (sN s) (sM s) (upF ch a x) d (a + 1)
              have h2 := Nat.mul_le_mul (show a + 1 ≤ 6 by omega) hv
              omega
            have hci := cm_iff (ho := sHo s) (f := upF ch a x) ok (show a + 1 ≤ 6 by omega) hL0 hL (hch 0 (by omega)).1 (hch 0 (by omega)).2 (by omega) hft
            refine u_indexC hs (bgm m5).1 (bgm m5).2 hc5 hcb ?_
            cases hcm : cmB (sN s) (sM s) (sHo s) L (upF ch a x) (a + 1) with
            | false =>
              rw [hcm, if_neg (by decide)] at hK
              refine ⟨fun _ => ?_, fun c => ?_⟩
              · rw [← lnI_s a]
                exact ih (tn + 1) (a + 1) _ _ (md + 1) so fs w5 (by omega) (by omega) (hI.stay c1 c2 x) (fun i hi => hP2 i (by omega)) base m5 hK
              · have := hci.mp c
                rw [hcm] at this
                cases this
            | true =>
              rw [hcm, if_pos rfl] at hK
              refine ⟨fun c => absurd (hci.mpr hcm) c, fun _ a9 e9 => ?_⟩
              rw [i1, nI_add] at e9
              subst e9
              have hI2 := hI.found c1 c2 hx.1 hx.2 c4
              have fin : ∀ w7, Mo [47] [16] w5 w7 → w7.1 39 16 = nI c → (∀ k, k < c → w7.2 47 k = lN ((if so = 0 then upF ch a x else fs) k)) → E 1 M_B_searches 23 [(0, .ref 39), (1, .int (nI L)), (2, .int (nI c)), (3, .int (nI S)), (4, .int (nI (so + 1))), (5, .int (nI a))] [] w7 (qI 1 K) := by
                intro w7 m7 h16 h47
                rw [← lnI_s a]
                obtain ⟨s1, s2, s3, s4, s5⟩ := base
                exact ih (tn + 1) (a + 1) _ _ (md + 1) (so + 1) _ w7 (by omega) (by omega) hI2 (fun i hi => hP2 i (by omega)) ⟨by rw [(m7.sl 14 (by decide) (by decide)).1]; exact s1, by rw [h16, if_neg (by omega)], fun i hi => by rw [(m7.pl 56 (by decide) (by decide)).1]; exact s3 i hi, fun i hi => by rw [(m7.pl 55 (by decide) (by decide)).2]; exact s4 i hi, fun _ => h47⟩ (m5.tr (m7.mono (by decide) (fun k hk => Or.inl (by rw [List.mem_singleton.mp hk]; decide)))) hK
              rw [base.2.1]
              by_cases s0 : so = 0
              · rw [if_pos s0]
                refine ⟨fun c => absurd rfl c, fun _ w10 e10 => ?_⟩
                have cp : ∀ j k w7, k + j = c → Mo [47] [16] w5 w7 → w7.1 39 16 = nI c → (∀ i, i < k → w7.2 47 i = lN (upF ch a x i)) → E 1 M_B_searches 164 [(0, .ref 39), (1, .int (nI L)), (2, .int (nI c)), (3, .int (nI S)), (4, .int (nI (so + 1))), (5, .int (nI a)), (7, .int (nI k))] [] w7 (qI 1 K) := by
                  intro j
                  induction j with
                  | zero =>
                    intro k w7 hk m7 h16 hd
                    refine w_B_searches_164 (pk_le c k (fun _ => fin w7 m7 h16 (fun i hi => ?_)) (fun c => by omega))
                    rw [if_pos s0]
                    exact hd i (by omega)
                  | succ j ih2 =>
                    intro k w7 hk m7 h16 hd
                    refine w_B_searches_164 ?_
                    rw [nI_clamp (by omega), (m7.pl 55 (by decide) (by decide)).2, c52, b55 k (by omega)]
                    refine pk_le c k (fun c => by omega) (fun _ => ⟨vp_in_nI (by omega) (by decide), vp_in_nI (by omega) (by decide), fun w8 e8 a2 e2 => ?_⟩)
                    rw [i1, nI_add] at e2
                    subst e2
                    refine ih2 (k + 1) w8 (by omega) (by rw [e8]; exact m7.upL _ (Or.inl (by decide))) (by rw [e8, upL_1]; exact h16) (fun i hi => ?_)
                    by_cases e : i = k
                    · rw [e8, e, upL_eq]
                    · rw [e8, upL_ne (by omega)]
                      exact hd i (by omega)
                exact cp c 0 w10 (by omega) (by rw [e10]; exact (Mo.rf _ _ _).upI _ (Or.inr (by decide))) (by rw [e10, upI_eq]) (fun i hi => absurd hi (Nat.not_lt_zero i))
              · rw [if_neg s0]
                refine ⟨fun _ => fin w5 (Mo.rf _ _ _) (by rw [base.2.1, if_neg s0]) (fun k hk => ?_), fun c => absurd (nI_z (by omega) c) hc0⟩
                rw [if_neg s0]
                exact base.2.2.2.2 (by omega) k hk
          · rw [if_neg (by omega)] at hK
            subst e11
            refine ⟨vp_in_nI (by omega) (by decide), fun w12 e12 => ?_⟩
            rw [nI_clamp (by omega)] at e12
            rw [← lnI_s (a + 1)]
            obtain ⟨s1, s2, s3, s4, s5⟩ := base
            refine ih (tn + 1) (a + 2) _ _ (md + 1) so fs w12 (by omega) (by omega) (hI.down c1 c2 hx.1 hx.2 c4) hP2 ⟨by rw [e12, upI_ne (by omega)]; exact s1, by rw [e12, upI_ne (by omega)]; exact s2, fun i hi => ?_, fun i hi => ?_, fun h1 k hk => by rw [e12, upI_2]; exact s5 h1 k hk⟩ (by rw [e12]; exact m5.upI _ (Or.inl (by decide))) hK
            · by_cases e : i = a + 1
              · rw [e12, e, upI_eq, upF_eq]
              · rw [e12, upI_ne (by omega), upF_ne e]
                exact s3 i (by omega)
            · rw [e12, upI_2, c52]
              exact b55 i (by omega)
      · have c2 : N ≤ nx a := Nat.le_of_eq (nI_inj (by omega) (by omega) c2').symm
        rw [if_neg (by omega), if_pos c2] at hK
        subst e13
        exact ih (tn + 1) a nx ch md so fs w (by omega) (by omega) hI.back (fun i hi => hP i (by omega)) ⟨r1, r2, fun i hi => r3 i (by omega), fun i hi => r4 i (by omega), r5⟩ hm hK
