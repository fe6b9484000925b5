/-- the reference's reader -/
def uX (len : Nat) (tx : Nat → Nat) (w : Wd) : Prop := len ≤ 160 ∧ w.1 39 10 = nI len ∧ ∀ i, i < len → w.1 44 i = nI (tx i) ∧ tx i ≤ 126
theorem uX.mo {len : Nat} {tx : Nat → Nat} {w w' : Wd} (h : uX len tx w) (hm : Mo [57] [29, 31] w w') : uX len tx w' := ⟨h.1, by rw [(hm.sl 10 (by decide) (by decide)).1]; exact h.2.1, fun i hi => by rw [(hm.pl 44 (by decide) (by decide)).1]; exact h.2.2 i hi⟩
theorem Bg.pm {n m : Nat} {w w' : Wd} (h : Bg n m w) (hm : Mo [57] [29, 31] w w') : Bg n m w' := ⟨h.1, by rw [(hm.sl 0 (by decide) (by decide)).1]; exact h.2.1, by rw [(hm.sl 1 (by decide) (by decide)).1]; exact h.2.2.1, by rw [(hm.sl 2 (by decide) (by decide)).1]; exact h.2.2.2⟩
theorem hr_le {len p : Nat} {tx : Nat → Nat} {w : Wd} (hX : uX len tx w) : hrF len tx p ≤ 126 := by
  unfold hrF
  by_cases c : p < len
  · rw [if_pos c]
    exact (hX.2.2 p c).2
  · rw [if_neg c]
    omega
theorem u_here {len p : Nat} {tx : Nat → Nat} {w : Wd} {K : Int32 → Wd → Prop} (hX : uX len tx w) (hp : w.1 39 31 = nI p) (hpl : p ≤ len) (h : K (nI (hrF len tx p)) w) : RunI 1 M_B_here [.ref 39] w K := by
  have h160 := hX.1
  refine r_B_here ?_
  rw [hp, hX.2.1, nI_clamp (by omega)]
  unfold hrF at h
  refine pk_le len p (fun c => ?_) (fun c => ⟨vp_in_nI (by omega) (by decide), ?_⟩)
  · rw [if_neg (by omega)] at h
    exact h
  · rw [if_pos c] at h
    rw [(hX.2.2 p c).1]
    exact h
theorem u_dg {len p : Nat} {tx : Nat → Nat} {w : Wd} {K : Bool → Wd → Prop} (hX : uX len tx w) (hp : w.1 39 31 = nI p) (hpl : p ≤ len) (h : K (dgB len tx p) w) : RunZ 1 M_B_isDigit [.ref 39] w K := by
  have h126 := hr_le (p := p) hX
  refine r_B_isDigit (u_here hX hp hpl (u_in (lo := 48) (hi := 57) rfl rfl rfl ?_))
  have e : decide (¬ nI (hrF len tx p) < 48 ∧ ¬ 57 < nI (hrF len tx p)) = dgB len tx p := by
    unfold dgB
    refine decide_eq_decide.mpr ?_
    rw [show (48 : Int32) = nI 48 from rfl, show (57 : Int32) = nI 57 from rfl, nI_ltI (by omega) (by decide), nI_ltI (by decide) (by omega)]
    unfold hrF
    by_cases c : p < len
    · rw [if_pos c]
      omega
    · rw [if_neg c]
      omega
  rw [e]
  exact h
theorem nmF_stop {len q : Nat} {tx : Nat → Nat} (h : dgB len tx q = false) (f v : Nat) : nmF len tx f q v = (v, q) := by
  cases f with
  | zero => rfl
  | succ f => rw [nmF, h, if_neg (by decide)]
theorem u_num {len lim p : Nat} {tx : Nat → Nat} {w0 : Wd} {K : Int32 → Wd → Prop} (hX : uX len tx w0) (hp : w0.1 39 31 = nI p) (hpl : p ≤ len) (hl0 : 0 < lim) (hlim : lim ≤ 40) (h : ∀ w, Mo [57] [31] w0 w → w.2 57 = w0.2 57 → w.1 39 31 = nI (nmR len tx lim p).2.2 → K (vR (nmR len tx lim p)) w) : RunI 1 M_B_number [.ref 39, .int (nI lim)] w0 K := by
  have h160 := hX.1
  have xm : ∀ {w : Wd}, Mo [57] [31] w0 w → uX len tx w := fun hm => hX.mo (hm.mono (by decide) (by decide))
  refine r_B_number (u_dg hX hp hpl ?_)
  unfold nmR at h
  cases hd : dgB len tx p with
  | false =>
    rw [hd, if_neg (by decide)] at h
    exact zf' (h w0 (Mo.rf _ _ _) rfl hp)
  | true =>
    rw [hd, if_pos rfl] at h
    have hdt := dg_t hd
    refine zt' (fun a3 e3 => ?_)
    rw [hp] at e3
    subst e3
    have stop : ∀ q u w, u ≤ 20000 → Mo [57] [31] w0 w → w.2 57 = w0.2 57 → w.1 39 31 = nI q → (∀ w', Mo [57] [31] w0 w' → w'.2 57 = w0.2 57 → w'.1 39 31 = nI (if min u 1000 < lim then (true, min u 1000, q) else (false, 0, p) : Rz).2.2 → K (vR (if min u 1000 < lim then (true, min u 1000, q) else (false, 0, p))) w') → E 1 M_B_number 19 [(0, .ref 39), (1, .int (nI lim)), (2, .int (nI p)), (3, .int (nI u)), (4, .int 0)] [] w (qI 1 K) := by
      intro q u w hu hm h57 h31 hK
      refine w_B_number_19 ⟨fun _ => pk_lt u lim (fun c => ?_) (fun c w1 e1 => ?_), fun c => absurd rfl c⟩
      · rw [if_pos (by omega), Nat.min_eq_left (by omega)] at hK
        exact hK w hm h57 h31
      · rw [if_neg (by omega)] at hK
        exact hK w1 (by rw [e1]; exact hm.upI _ (Or.inr (by decide))) (by rw [e1, upI_2]; exact h57) (by rw [e1, upI_eq])
    by_cases e48 : tx p = 48
    · rw [if_pos e48] at h
      refine w_B_number_19 ⟨fun c => absurd c (by decide), fun _ => ⟨fun c => absurd c (by decide), fun _ => u_here hX hp hpl (fun a7 e7 w8 e8 => ?_)⟩⟩
      rw [show hrF len tx p = tx p from if_pos hdt.1, e48] at e7
      have e7' : a7 = nI 0 := e7.trans (by decide)
      subst e7'
      rw [hp, i1, nI_add] at e8
      have m8 : Mo [57] [31] w0 w8 := by rw [e8]; exact (Mo.rf _ _ _).upI _ (Or.inr (by decide))
      have s8 : E 1 M_B_number 19 [(0, .ref 39), (1, .int (nI lim)), (2, .int (nI p)), (3, .int (nI 0)), (4, .int 0)] [] w8 (qI 1 K) := by
        refine stop (p + 1) 0 w8 (by omega) m8 (by rw [e8, upI_2]) (by rw [e8, upI_eq]) ?_
        rw [Nat.zero_min, if_pos hl0]
        exact h
      refine u_dg (xm m8) (by rw [e8, upI_eq]) hdt.1 ?_
      have c44 : w8.1 44 (nI p).toNatClampNeg = 48 := by rw [nI_clamp (by omega), (m8.pl 44 (by decide) (by decide)).1, (hX.2.2 p hdt.1).1, e48]; rfl
      refine ⟨fun _ => s8, fun _ => ⟨vp_in_nI (by omega) (by decide), fun _ => s8, fun c => absurd c44 c⟩⟩
    · rw [if_neg e48] at h
      have key : ∀ f q u w, q + (f + 1) = len → u ≤ 20000 → dgB len tx q = true → Mo [57] [31] w0 w → w.2 57 = w0.2 57 → w.1 39 31 = nI q → (∀ w', Mo [57] [31] w0 w' → w'.2 57 = w0.2 57 → w'.1 39 31 = nI (if (nmF len tx (f + 1) q (min u 1000)).1 < lim then (true, nmF len tx (f + 1) q (min u 1000)) else (false, 0, p) : Rz).2.2 → K (vR (if (nmF len tx (f + 1) q (min u 1000)).1 < lim then (true, nmF len tx (f + 1) q (min u 1000)) else (false, 0, p))) w') → E 1 M_B_number 19 [(0, .ref 39), (1, .int (nI lim)), (2, .int (nI p)), (3, .int (nI u)), (4, .int 1)] [] w (qI 1 K) := by
        intro f
        induction f with
        | zero =>
          intro q u w hq hu hdq hm h57 h31 hK
          rw [nmF, hdq, if_pos rfl] at hK
          have hdt2 := dg_t hdq
          have nd : dgB len tx (q + 1) = false := decide_eq_false (by omega)
          rw [nmF_stop nd] at hK
          refine w_B_number_19 ⟨fun c => absurd c (by decide), fun _ => pk_le 1000 u (fun c w2 e2 => ?_) (fun c => ?_)⟩
          · rw [h31, i1, nI_add] at e2
            have m2 : Mo [57] [31] w0 w2 := by rw [e2]; exact hm.upI _ (Or.inr (by decide))
            refine u_dg (xm m2) (by rw [e2, upI_eq]) hdt2.1 ?_
            rw [nd]
            refine zf (stop (q + 1) u w2 hu m2 (by rw [e2, upI_2]; exact h57) (by rw [e2, upI_eq]) ?_)
            rw [show min (10 * min u 1000 + (tx q - 48)) 1000 = min u 1000 by omega] at hK
            exact hK
          · refine u_here (xm hm) h31 (by omega) (fun a7 e7 w8 e8 => ?_)
            rw [show hrF len tx q = tx q from if_pos hdt2.1, show (10 : Int32) = nI 10 from rfl, show (48 : Int32) = nI 48 from rfl, pk_mul, nI_add, pk_sub (by omega)] at e7
            subst e7
            rw [h31, i1, nI_add] at e8
            have m2 : Mo [57] [31] w0 w8 := by rw [e8]; exact hm.upI _ (Or.inr (by decide))
            refine u_dg (xm m2) (by rw [e8, upI_eq]) hdt2.1 ?_
            rw [nd]
            refine zf (stop (q + 1) _ w8 (by omega) m2 (by rw [e8, upI_2]; exact h57) (by rw [e8, upI_eq]) ?_)
            rw [show min (10 * min u 1000 + (tx q - 48)) 1000 = min (10 * u + tx q - 48) 1000 by omega] at hK
            exact hK
        | succ f ih =>
          intro q u w hq hu hdq hm h57 h31 hK
          rw [nmF, hdq, if_pos rfl] at hK
          have hdt2 := dg_t hdq
          have c44 : ∀ {w' : Wd}, Mo [57] [31] w0 w' → ¬ w'.1 44 (nI p).toNatClampNeg = 48 := fun m' c => by
            rw [nI_clamp (by omega), (m'.pl 44 (by decide) (by decide)).1, (hX.2.2 p hdt.1).1] at c
            exact e48 (nI_inj (by have := (hX.2.2 p hdt.1).2; omega) (by decide) c)
          refine w_B_number_19 ⟨fun c => absurd c (by decide), fun _ => pk_le 1000 u (fun c w2 e2 => ?_) (fun c => ?_)⟩
          · rw [h31, i1, nI_add] at e2
            have m2 : Mo [57] [31] w0 w2 := by rw [e2]; exact hm.upI _ (Or.inr (by decide))
            rw [show min (10 * min u 1000 + (tx q - 48)) 1000 = min u 1000 by omega] at hK
            refine u_dg (xm m2) (by rw [e2, upI_eq]) hdt2.1 ?_
            cases nd : dgB len tx (q + 1) with
            | false =>
              rw [nmF_stop nd] at hK
              exact zf (stop (q + 1) u w2 hu m2 (by rw [e2, upI_2]; exact h57) (by rw [e2, upI_eq]) hK)
            | true =>
              exact zt ⟨vp_in_nI (by omega) (by decide), fun c => absurd c (c44 m2), fun _ => ih (q + 1) u w2 (by omega) hu nd m2 (by rw [e2, upI_2]; exact h57) (by rw [e2, upI_eq]) hK⟩
          · refine u_here (xm hm) h31 (by omega) (fun a7 e7 w8 e8 => ?_)
            rw [show hrF len tx q = tx q from if_pos hdt2.1, show (10 : Int32) = nI 10 from rfl, show (48 : Int32) = nI 48 from rfl, pk_mul, nI_add, pk_sub (by omega)] at e7
            subst e7
            rw [h31, i1, nI_add] at e8
            have m2 : Mo [57] [31] w0 w8 := by rw [e8]; exact hm.upI _ (Or.inr (by decide))
            rw [show min (10 * min u 1000 + (tx q - 48)) 1000 = min (10 * u + tx q - 48) 1000 by omega] at hK
            refine u_dg (xm m2) (by rw [e8, upI_eq]) hdt2.1 ?_
            cases nd : dgB len tx (q + 1) with
            | false =>
              rw [nmF_stop nd] at hK
              exact zf (stop (q + 1) _ w8 (by omega) m2 (by rw [e8, upI_2]; exact h57) (by rw [e8, upI_eq]) hK)
            | true =>
              exact zt ⟨vp_in_nI (by omega) (by decide), fun c => absurd c (c44 m2), fun _ => ih (q + 1) _ w8 (by omega) (by omega) nd m2 (by rw [e8, upI_2]; exact h57) (by rw [e8, upI_eq]) hK⟩
      refine key (len - p - 1) p 0 w0 (by omega) (by omega) hd (Mo.rf _ _ _) rfl hp ?_
      rw [Nat.zero_min, show len - p - 1 + 1 = len - p by omega]
      exact h
theorem u_elem {len n m p k S : Nat} {tx : Nat → Nat} {w0 : Wd} {K : Bool → Wd → Prop} (hB : Bg n m w0) (hX : uX len tx w0) (hp : w0.1 39 31 = nI p) (hpl : p ≤ len) (hk : k < 6) (h29 : w0.1 39 29 = nI k) (hS : S < 2 ^ (n * m)) (h57 : w0.2 57 k = lN S)
    (hT : (elR len tx n m p).1 = true → S.testBit (elR len tx n m p).2.1 = false → ∀ w, Mo [57] [31] w0 w → w.1 39 31 = nI (elR len tx n m p).2.2 → w.2 57 k = lN (S ||| 2 ^ (elR len tx n m p).2.1) → (∀ i, i ≠ k → w.2 57 i = w0.2 57 i) → K true w)
    (hF1 : (elR len tx n m p).1 = false → ∀ w, Mo [57] [31] w0 w → w.2 57 = w0.2 57 → w.1 39 31 = nI (elR len tx n m p).2.2 → K false w)
    (hF2 : (elR len tx n m p).1 = true → S.testBit (elR len tx n m p).2.1 = true → ∀ w, Mo [57] [31] w0 w → w.2 57 = w0.2 57 → w.1 39 31 = nI p → K false w) : RunZ 1 M_B_isNextElement [.ref 39] w0 K := by
  have ok := hB.1
  have hn := ok.n40
  have hm40 := ok.m40
  have hv := ok.2.2
  have hn0 := ok.n0
  have hm0 := ok.m0
  have h40 := pow40 hv
  have h160 := hX.1
  have hnok := nmR_ok (tx := tx) (lim := n) ok.n0 hpl
  have hmm : ∀ {w : Wd}, Mo [57] [31] w0 w → Mo [57] [29, 31] w0 w := fun m' => m'.mono (by decide) (by decide)
  have last : ∀ a b q w, m * a + b < n * m → (elR len tx n m p).1 = true → (elR len tx n m p).2.1 = m * a + b → (elR len tx n m p).2.2 = q → Mo [57] [31] w0 w → w.2 57 = w0.2 57 → w.1 39 31 = nI q → E 1 M_B_isNextElement 66 [(0, .ref 39), (1, .int (nI p)), (2, .int (nI a)), (3, .int (nI b))] [] w (qZ 1 K) := by
    intro a b q w hab h1 h2 h3 hm' h57' h31
    have hBw := hB.pm (hmm hm')
    have h29w : w.1 39 29 = nI k := by rw [(hm'.sl 29 (by decide) (by decide)).1]; exact h29
    refine w_B_isNextElement_66 ?_
    rw [h29w, nI_clamp (by omega), h57', h57, hBw.2.2.1, pk_mul, nI_add]
    refine ⟨vp_in_nI (by omega) (by decide), u_has (by omega) (by omega) ?_⟩
    rw [h29w, nI_clamp (by omega), h57', h57, hBw.2.2.1, pk_mul, nI_add, l_pow (by omega), fb_orL]
    cases hb : S.testBit (m * a + b) with
    | false =>
      refine zf ⟨vp_in_nI (by omega) (by decide), vp_in_nI (by omega) (by decide), fun w3 e3 => hT h1 (by rw [h2]; exact hb) w3 (by rw [e3]; exact hm'.upL _ (Or.inl (by decide))) (by rw [e3, upL_1, h3]; exact h31) (by rw [e3, upL_eq, h2]) (fun i hi => by rw [e3, upL_ne (by omega), h57'])⟩
    | true =>
      exact zt (fun w4 e4 => hF2 h1 (by rw [h2]; exact hb) w4 (by rw [e4]; exact hm'.upI _ (Or.inr (by decide))) (by rw [e4, upI_2]; exact h57') (by rw [e4, upI_eq]))
  refine r_B_isNextElement (fun a1 e1 => ?_)
  rw [hp] at e1
  subst e1
  rw [hB.2.1]
  refine u_num hX hp hpl hn0 hn (fun w2 hm2 h572 h31 => ?_)
  have hB2 := hB.pm (hmm hm2)
  unfold vR
  cases hr : (nmR len tx n p).1 with
  | false =>
    have er : elR len tx n m p = (false, 0, (nmR len tx n p).2.2) := by unfold elR; rw [hr, if_neg (by decide)]
    rw [if_neg (by decide)]
    exact ⟨fun c => absurd c (by decide), fun _ => hF1 (by rw [er]) w2 hm2 h572 (by rw [er]; exact h31)⟩
  | true =>
    rw [if_pos rfl]
    have hv1 := (hnok.2 hr).1
    refine ⟨fun _ => ?_, fun c => absurd (nI_le (a := 0) (b := (nmR len tx n p).2.1) (Nat.zero_le _) (by omega)) c⟩
    rw [hB2.2.2.1, i1]
    refine pk_le m 1 (fun c => ?_) (fun c => ?_)
    · have em : m = 1 := by omega
      have er : elR len tx n m p = nmR len tx n p := by unfold elR; rw [hr, if_pos rfl, if_pos em]
      refine last _ 0 _ w2 ?_ (by rw [er]; exact hr) ?_ rfl hm2 h572 (by rw [er]; exact h31)
      · rw [em]
        omega
      · rw [er, em]
        omega
    · have em : m ≠ 1 := by omega
      have er : elR len tx n m p = elS len tx m (nmR len tx n p).2.1 (nmR len tx n p).2.2 := by unfold elR; rw [hr, if_pos rfl, if_neg em]
      have h126 := hr_le (p := (nmR len tx n p).2.2) (hX.mo (hmm hm2))
      refine u_here (hX.mo (hmm hm2)) h31 hnok.1 ?_
      by_cases e46 : hrF len tx (nmR len tx n p).2.2 = 46
      · have hq := hr_lt e46 (by decide)
        have hmok := nmR_ok (tx := tx) (lim := m) (p := (nmR len tx n p).2.2 + 1) ok.m0 hq
        rw [e46]
        refine ⟨fun _ w6 e6 => ?_, fun c => absurd rfl c⟩
        rw [h31, nI_add] at e6
        have m6 : Mo [57] [31] w0 w6 := by rw [e6]; exact hm2.upI _ (Or.inr (by decide))
        have hB6 := hB.pm (hmm m6)
        rw [hB6.2.2.1]
        refine u_num (hX.mo (hmm m6)) (by rw [e6, upI_eq]) hq hm0 (by omega) (fun w7 hm7 h577 h317 => ?_)
        have m7 : Mo [57] [31] w0 w7 := m6.tr hm7
        have s7 : w7.2 57 = w0.2 57 := by rw [h577, e6, upI_2]; exact h572
        unfold vR
        cases hr2 : (nmR len tx m ((nmR len tx n p).2.2 + 1)).1 with
        | false =>
          have er2 : elR len tx n m p = (false, 0, (nmR len tx m ((nmR len tx n p).2.2 + 1)).2.2) := by rw [er]; unfold elS; rw [if_pos e46, hr2, if_neg (by decide)]
          rw [if_neg (by decide)]
          exact ⟨fun c => absurd c (by decide), fun _ => hF1 (by rw [er2]) w7 m7 s7 (by rw [er2]; exact h317)⟩
        | true =>
          have er2 : elR len tx n m p = (true, m * (nmR len tx n p).2.1 + (nmR len tx m ((nmR len tx n p).2.2 + 1)).2.1, (nmR len tx m ((nmR len tx n p).2.2 + 1)).2.2) := by rw [er]; unfold elS; rw [if_pos e46, hr2, if_pos rfl]
          rw [if_pos rfl]
          have hv2 := (hmok.2 hr2).1
          refine ⟨fun _ => last _ _ _ w7 (pr_lt hv1 hv2) (by rw [er2]) (by rw [er2]) rfl m7 s7 (by rw [er2]; exact h317), fun c => absurd (nI_le (a := 0) (b := (nmR len tx m ((nmR len tx n p).2.2 + 1)).2.1) (Nat.zero_le _) (by omega)) c⟩
      · have er2 : elR len tx n m p = (false, 0, (nmR len tx n p).2.2) := by rw [er]; unfold elS; rw [if_neg e46]
        exact ⟨fun c => absurd (nI_inj (by omega) (by decide) c) e46, fun _ => hF1 (by rw [er2]) w2 hm2 h572 (by rw [er2]; exact h31)⟩
