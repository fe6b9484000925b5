/-- one block: the reference -/
theorem u_block {len n m p k : Nat} {tx : Nat → Nat} {w0 : Wd} {K : Bool → Wd → Prop} (hB : Bg n m w0) (hX : uX len tx w0) (hp : w0.1 39 31 = nI p) (hpl : p ≤ len) (hk : k < 6) (h29 : w0.1 39 29 = nI k)
    (hT : (bkR len tx n m 160 0 p).1 = true → ∀ w, Mo [57] [29, 31] w0 w → w.1 39 29 = nI (k + 1) → w.1 39 31 = nI (bkR len tx n m 160 0 p).2.2 → w.2 57 k = lN (bkR len tx n m 160 0 p).2.1 → (∀ i, i ≠ k → w.2 57 i = w0.2 57 i) → K true w)
    (hF : (bkR len tx n m 160 0 p).1 = false → ∀ w, Mo [57] [29, 31] w0 w → w.1 39 31 = nI (bkR len tx n m 160 0 p).2.2 → K false w) : RunZ 1 M_B_isNextBlock [.ref 39] w0 K := by
  have ok := hB.1
  have h160 := hX.1
  have key : ∀ f e S q w, e + f = 160 → 2 * e ≤ q → q ≤ len → S < 2 ^ (n * m) → Mo [57] [29, 31] w0 w → w.1 39 29 = nI k → w.1 39 31 = nI q → w.2 57 k = lN S → (∀ i, i ≠ k → w.2 57 i = w0.2 57 i) → bkR len tx n m f S q = bkR len tx n m 160 0 p → RunZ 1 M_B_isNextElement [.ref 39] w (fun z3 w2 => ∀ a4 : Int32, a4 = bI z3 → E 1 M_B_isNextBlock 26 [(0, .ref 39), (1, .int a4)] [] w2 (qZ 1 K)) := by
    intro f
    induction f with
    | zero =>
      intro e S q w he hq hql
      omega
    | succ f ih =>
      intro e S q w he hq hql hS hm h29w h31 h57 ho hb
      rw [bkR] at hb
      have hel := elR_ok (tx := tx) ok hql
      have hBw := hB.pm hm
      have hXw := hX.mo hm
      have mm : ∀ {w' : Wd}, Mo [57] [31] w w' → Mo [57] [29, 31] w0 w' := fun m' => hm.tr (m'.mono (by decide) (by decide))
      have no : ∀ {w' : Wd} (a4 : Int32), a4 = bI false → K false w' → E 1 M_B_isNextBlock 26 [(0, .ref 39), (1, .int a4)] [] w' (qZ 1 K) := fun a4 e4 hK => by
        subst e4
        exact w_B_isNextBlock_26 ⟨fun _ => ⟨fun _ => hK, fun c => absurd rfl c⟩, fun c => absurd rfl c⟩
      refine u_elem hBw hXw h31 hql hk h29w hS h57 (fun hr hbit w2 hm2 k31 k57 ko a4 e4 => ?_) (fun hr w2 hm2 _ k31 a4 e4 => ?_) (fun hr hbit w2 hm2 _ k31 a4 e4 => ?_)
      · rw [hr, if_pos rfl, hbit, if_neg (by decide)] at hb
        subst e4
        have hev := hel.2 hr
        have hX2 := hX.mo (mm hm2)
        have h126 := hr_le (p := (elR len tx n m q).2.2) hX2
        have hS2 : S ||| 2 ^ (elR len tx n m q).2.1 < 2 ^ (n * m) := Nat.or_lt_two_pow hS (Nat.pow_lt_pow_right (by decide) hev.1)
        have k29 : w2.1 39 29 = nI k := by rw [(hm2.sl 29 (by decide) (by decide)).1]; exact h29w
        have kall : ∀ i, i ≠ k → w2.2 57 i = w0.2 57 i := fun i hi => (ko i hi).trans (ho i hi)
        refine w_B_isNextBlock_26 ⟨fun c => absurd c (by decide), fun _ => u_here hX2 k31 hel.1 ?_⟩
        by_cases e44 : hrF len tx (elR len tx n m q).2.2 = 44
        · rw [if_neg (by rw [e44]; decide), if_pos e44] at hb
          rw [e44]
          have hq2 := hr_lt e44 (by decide)
          refine ⟨fun c => absurd rfl c, fun _ w11 e11 => ?_⟩
          rw [k31, i1, nI_add] at e11
          exact ih (e + 1) _ _ w11 (by omega) (by omega) hq2 hS2 (by rw [e11]; exact (mm hm2).upI _ (Or.inr (by decide))) (by rw [e11, upI_ne (by omega)]; exact k29) (by rw [e11, upI_eq]) (by rw [e11, upI_2]; exact k57) (fun i hi => by rw [e11, upI_2]; exact kall i hi) hb
        · refine ⟨fun _ => ⟨fun c => absurd c (by decide), fun _ => u_here hX2 k31 hel.1 ?_⟩, fun c => absurd (nI_inj (by omega) (by decide) c) e44⟩
          by_cases e59 : hrF len tx (elR len tx n m q).2.2 = 59
          · rw [if_pos e59] at hb
            rw [e59]
            refine ⟨fun _ w9 e9 w10 e10 => ?_, fun c => absurd rfl c⟩
            rw [k31, i1, nI_add] at e9
            have q9 : w9.1 39 29 = nI k := by rw [e9, upI_ne (by omega)]; exact k29
            rw [q9, i1, nI_add] at e10
            refine hT (by rw [← hb]) w10 ?_ (by rw [e10, upI_eq]) ?_ ?_ (fun i hi => ?_)
            · rw [e10, e9]
              exact ((mm hm2).upI _ (Or.inr (by decide))).upI _ (Or.inr (by decide))
            · rw [← hb, e10, upI_ne (by omega), e9, upI_eq]
            · rw [← hb, e10, upI_2, e9, upI_2]
              exact k57
            · rw [e10, upI_2, e9, upI_2]
              exact kall i hi
          · rw [if_neg e59, if_neg e44] at hb
            exact ⟨fun c => absurd (nI_inj (by omega) (by decide) c) e59, fun _ => hF (by rw [← hb]) w2 (mm hm2) (by rw [← hb]; exact k31)⟩
      · rw [hr, if_neg (by decide)] at hb
        exact no a4 e4 (hF (by rw [← hb]) w2 (mm hm2) (by rw [← hb]; exact k31))
      · rw [hr, if_pos rfl, hbit, if_pos rfl] at hb
        exact no a4 e4 (hF (by rw [← hb]) w2 (mm hm2) (by rw [← hb]; exact k31))
  refine r_B_isNextBlock ?_
  rw [h29, nI_clamp (by omega)]
  refine ⟨fun _ => ⟨vp_in_nI (by omega) (by decide), fun w1 e1 => ?_⟩, fun c => absurd (nI_inj (a := k) (b := 6) (by omega) (by decide) c) (by omega)⟩
  exact key 160 0 0 p w1 (by omega) (by omega) hpl (Nat.two_pow_pos _) (by rw [e1]; exact (Mo.rf _ _ _).upL _ (Or.inl (by decide))) (by rw [e1, upL_1]; exact h29) (by rw [e1, upL_1]; exact hp) (by rw [e1, upL_eq]; rfl) (fun i hi => by rw [e1, upL_ne (by omega)]) rfl
theorem u_text {len n m : Nat} {tx : Nat → Nat} {w0 : Wd} {K : Bool → Wd → Prop} (hB : Bg n m w0) (hX : uX len tx w0)
    (hT : (txR len tx n m 6 0 0 (fun _ => 0)).1 = true → ∀ w, Mo [57] [29, 31] w0 w → w.1 39 29 = nI (txR len tx n m 6 0 0 (fun _ => 0)).2.2.1 → (∀ i, i < (txR len tx n m 6 0 0 (fun _ => 0)).2.2.1 → w.2 57 i = lN ((txR len tx n m 6 0 0 (fun _ => 0)).2.2.2 i)) → K true w)
    (hF : (txR len tx n m 6 0 0 (fun _ => 0)).1 = false → ∀ w, Mo [57] [29, 31] w0 w → w.1 39 31 = nI (txR len tx n m 6 0 0 (fun _ => 0)).2.1 → K false w) : RunZ 1 M_B_isText [.ref 39] w0 K := by
  have ok := hB.1
  have h160 := hX.1
  have no : ∀ {w' : Wd}, K false w' → E 1 M_B_isText 12 [(0, .ref 39), (1, .int (bI false))] [] w' (qZ 1 K) := fun hK => w_B_isText_12 ⟨fun _ => ⟨false, rfl, hK⟩, fun c => absurd rfl c⟩
  have key : ∀ f k q F w, k + f = 6 → q ≤ len → Mo [57] [29, 31] w0 w → w.1 39 29 = nI k → w.1 39 31 = nI q → (∀ i, i < k → w.2 57 i = lN (F i)) → txR len tx n m f k q F = txR len tx n m 6 0 0 (fun _ => 0) → E 1 M_B_isText 12 [(0, .ref 39), (1, .int (bI true))] [] w (qZ 1 K) := by
    intro f
    induction f with
    | zero =>
      intro k q F w hk hq hm h29 h31 hS ht
      rw [txR] at ht
      refine w_B_isText_12 ⟨fun c => absurd c (by decide), fun _ => ?_⟩
      rw [(hX.mo hm).2.1, h31]
      refine pk_le len q (fun c => ⟨true, rfl, ?_⟩) (fun c => ?_)
      · exact hT (by rw [← ht]; exact decide_eq_true c) w hm (by rw [← ht]; exact h29) (fun i hi => by rw [← ht] at hi ⊢; exact hS i hi)
      · refine r_B_isNextBlock ?_
        rw [h29, show k = 6 by omega]
        refine ⟨fun c => absurd rfl c, fun _ a3 e3 => ?_⟩
        subst e3
        exact no (hF (by rw [← ht]; exact decide_eq_false (by omega)) w hm (by rw [← ht]; exact h31))
    | succ f ih =>
      intro k q F w hk hq hm h29 h31 hS ht
      rw [txR] at ht
      have hbo := bkR_ok (tx := tx) ok 160 0 q hq (Nat.two_pow_pos _)
      refine w_B_isText_12 ⟨fun c => absurd c (by decide), fun _ => ?_⟩
      rw [(hX.mo hm).2.1, h31]
      refine pk_le len q (fun c => ⟨true, rfl, ?_⟩) (fun c => ?_)
      · rw [if_pos c] at ht
        exact hT (by rw [← ht]) w hm (by rw [← ht]; exact h29) (fun i hi => by rw [← ht] at hi ⊢; exact hS i hi)
      · rw [if_neg (by omega)] at ht
        refine u_block (hB.pm hm) (hX.mo hm) h31 hq (show k < 6 by omega) h29 (fun hb w2 hm2 k29 k31 k57 ko a3 e3 => ?_) (fun hb w2 hm2 k31 a3 e3 => ?_)
        · rw [hb, if_pos rfl] at ht
          subst e3
          refine ih (k + 1) _ _ w2 (by omega) hbo.1 (hm.tr hm2) k29 k31 (fun i hi => ?_) ht
          by_cases e : i = k
          · rw [e, upF_eq]
            exact k57
          · rw [upF_ne e, ko i e]
            exact hS i (by omega)
        · rw [hb, if_neg (by decide)] at ht
          subst e3
          exact no (hF (by rw [← ht]) w2 (hm.tr hm2) (by rw [← ht]; exact k31))
  refine r_B_isText (fun w1 e1 w2 e2 => ?_)
  exact key 6 0 0 (fun _ => 0) w2 (by omega) (Nat.zero_le _) (by rw [e2, e1]; exact ((Mo.rf _ _ _).upI _ (Or.inr (by decide))).upI _ (Or.inr (by decide))) (by rw [e2, upI_ne (by omega), e1, upI_eq]; rfl) (by rw [e2, upI_eq]; rfl) (fun i hi => absurd hi (Nat.not_lt_zero i)) rfl
/-- the text of a state -/
abbrev txS (s : Sg) : Bool × Nat × Nat × (Nat → Nat) := txR (sTl s) (sTx s) (sN s) (sM s) 6 0 0 (fun _ => 0)
theorem tx_x {s : Sg} {w : Wd} (hs : WF s) (hC : CW s w) : tX (sTl s) (sTx s) w := by
  have h := hC.2.2.2.2.2.2.2
  exact ⟨hs.2.2.2.1, h.1, fun i hi => ⟨h.2 i hi, (hs.2.2.2.2.2.2.2.2.2.2.2.1 i hi).2⟩⟩
theorem ux_x {s : Sg} {w : Wd} (hs : WF s) (hM : MW s w) : uX (sTl s) (sTx s) w := by
  have h := hM.2.2.2.2.2.2
  exact ⟨hs.2.2.2.1, h.1, fun i hi => ⟨h.2 i hi, (hs.2.2.2.2.2.2.2.2.2.2.2.1 i hi).2⟩⟩
theorem CW.t {s : Sg} {w w2 : Wd} (h : CW s w) (hm : Mo [32, 34] [] w w2) (h3 : w2.1 32 3 = w.1 32 3) : CW s w2 ∧ Mo allA [] w w2 := by
  obtain ⟨a, b, c, d, e, f, g, i⟩ := h
  refine ⟨⟨a.mo hm (by decide), b.mo hm (by decide), c.mo hm (by decide), d.mo hm (by decide) (by decide), e.mo hm (by decide) (by decide) (by decide), f.mo hm (by decide) (by decide) (by decide), g.mo hm (by decide) (by decide) (by decide), ⟨by rw [h3]; exact i.1, fun q hq => ?_⟩⟩, hm.mono (by decide) (fun _ c => absurd c List.not_mem_nil)⟩
  rw [(hm.pl 33 (by decide) (by decide)).1]
  exact i.2 q hq
theorem MW.t {s : Sg} {w w2 : Wd} (h : MW s w) (hm : Mo [57] [29, 31] w w2) : MW s w2 ∧ Mo allB [] w w2 := ⟨h.mo (hm.mono (by decide) (by decide)), hm.mono (by decide) (fun _ _ => Or.inr (by decide))⟩
theorem op_faultPosition : Op_faultPosition INV := by
  rintro w ⟨s, hs⟩
  have hC := hs.2.1
  cases hr : (txS s).1 with
  | true =>
    refine glueI (val := -4) (nx := s) hs (r_A_faultPosition (t_parse hC.1 (tx_x hs.1 hC) (fun _ w2 hm h3 h6 _ _ => ⟨h6, hC.t hm h3⟩) (fun c => by rw [hr] at c; cases c))) (fun w1 hM => r_B_faultPosition (u_text hM.1.1 (ux_x hs.1 hM) (fun _ w2 hm _ _ => zt ⟨rfl, hM.t hm⟩) (fun c => by rw [hr] at c; cases c))) hs.1
  | false =>
    refine glueI (val := nI (txS s).2.1) (nx := s) hs (r_A_faultPosition (t_parse hC.1 (tx_x hs.1 hC) (fun c => by rw [hr] at c; cases c) (fun _ w2 hm h3 h6 => ⟨h6, hC.t hm h3⟩))) (fun w1 hM => r_B_faultPosition (u_text hM.1.1 (ux_x hs.1 hM) (fun c => by rw [hr] at c; cases c) (fun _ w2 hm h31 => zf ⟨h31, hM.t hm⟩))) hs.1
theorem op_read : Op_read INV := by
  rintro w ⟨s, hs⟩
  have hC := hs.2.1
  have ok := hs.1.1
  have hto := txR_ok (tx := sTx s) (len := sTl s) ok 6 0 0 (fun _ => 0) (by omega) (Nat.zero_le _) (fun i hi => absurd hi (Nat.not_lt_zero i)) (fun _ _ => rfl)
  have hF6 : ∀ k, (txS s).2.2.2 k < 2 ^ (sN s * sM s) := fun k => by
    by_cases c : k < (txS s).2.2.1
    · exact hto.2.2.1 k c
    · rw [show (txS s).2.2.2 k = 0 from hto.2.2.2 k (Nat.le_of_not_lt c)]
      exact Nat.two_pow_pos _
  have hc6 : (txS s).2.2.1 ≤ 6 := hto.2.1
  cases hr : (txS s).1 with
  | true =>
    have hN : WF (stF s (txS s).2.2.2) := hs.1.f (fun k _ => hF6 k)
    refine glueI (val := nI (txS s).2.2.1) (nx := stF s (txS s).2.2.2) hs (r_A_read (t_parse hC.1 (tx_x hs.1 hC) (fun _ w2 hm h3 h6 h4 h34 => ?_) (fun c => by rw [hr] at c; cases c))) (fun w1 hM => r_B_read (u_text hM.1.1 (ux_x hs.1 hM) (fun _ w2 hm h29 h57 => zt' ?_) (fun c => by rw [hr] at c; cases c))) hN
    · have hC2 := hC.t hm h3
      refine ⟨fun _ => t_note hs.1.hs hC2.1.2.2.2.1 hC2.1.2.2.1 (fun w7 hm7 hY7 => ⟨by decide, fun w8 e8 => ?_⟩), fun c => absurd h6 c⟩
      have h3' := hC2.1.f hm7 hY7 (w2 := w8) (f := (txS s).2.2.2) (by rw [e8]; exact (Mo.rf _ _ w7).cp _ _ _ (by decide)) (fun k hk => by
        rw [e8]
        have e9 : (cpL w7 34 10 0 0 6).2 10 k = w7.2 34 (0 + (k - 0)) := cpL_in (Nat.zero_le _) (by omega)
        have e10 : (cpL w7 34 10 (0 : Int32).toNatClampNeg (0 : Int32).toNatClampNeg (6 : Int32).toNatClampNeg).2 10 k = (cpL w7 34 10 0 0 6).2 10 k := rfl
        rw [e10, e9, Nat.zero_add, Nat.sub_zero, (hm7.pl 34 (by decide) (by decide)).2]
        exact h34 k hk)
      refine ⟨?_, h3'.1, hC2.2.tr h3'.2⟩
      rw [e8]
      show w7.1 32 4 = _
      rw [(hm7.pl 32 (by decide) (by decide)).1]
      exact h4
    · have hM2 := hM.t hm
      refine u_note hs.1.hs hM2.1.2.2.2.1 hM2.1.2.2.1 (fun w7 hm7 hY7 => ?_)
      have key : ∀ j k w3, k + j = 6 → Mo [40] [] w7 w3 → (∀ q, q < k → w3.2 40 q = lN ((txS s).2.2.2 q)) → E 1 M_B_read 16 [(0, .ref 39), (1, .int (nI k))] [] w3 (qI 1 (fun r w4 => r = nI (txS s).2.2.1 ∧ MW (stF s (txS s).2.2.2) w4 ∧ Mo allB [] w1 w4)) := by
        intro j
        induction j with
        | zero =>
          intro k w3 hk hm3 hd
          have hq := hM2.1.f hm7 hY7 hm3 (fun q hq => hd q (by omega))
          refine w_B_read_16 (pk_le 6 k (fun _ => ⟨?_, hq.1, hM2.2.tr hq.2⟩) (fun c => by omega))
          rw [(hm3.sl 29 (by decide) (by decide)).1, (hm7.sl 29 (by decide) (by decide)).1]
          exact h29
        | succ j ih =>
          intro k w3 hk hm3 hd
          have e29 : w3.1 39 29 = nI (txS s).2.2.1 := by
            rw [(hm3.sl 29 (by decide) (by decide)).1, (hm7.sl 29 (by decide) (by decide)).1]
            exact h29
          have nxt : ∀ w4, w4 = upL w3 40 k (lN ((txS s).2.2.2 k)) → E 1 M_B_read 16 [(0, .ref 39), (1, .int (nI (k + 1)))] [] w4 (qI 1 (fun r w4 => r = nI (txS s).2.2.1 ∧ MW (stF s (txS s).2.2.2) w4 ∧ Mo allB [] w1 w4)) := fun w4 e4 => by
            refine ih (k + 1) w4 (by omega) (by rw [e4]; exact hm3.upL _ (Or.inl (by decide))) (fun q hq => ?_)
            by_cases e : q = k
            · rw [e4, e, upL_eq]
            · rw [e4, upL_ne (by omega)]
              exact hd q (by omega)
          refine w_B_read_16 (pk_le 6 k (fun c => by omega) (fun _ => ?_))
          rw [e29, nI_clamp (by omega)]
          refine pk_le (txS s).2.2.1 k (fun c => ⟨vp_in_nI (by omega) (by decide), fun w4 e4 a2 e2 => ?_⟩) (fun c => ⟨vp_in_nI (by omega) (by decide), vp_in_nI (by omega) (by decide), fun w4 e4 a2 e2 => ?_⟩)
          · rw [i1, nI_add] at e2
            subst e2
            refine nxt w4 ?_
            rw [e4, show (txS s).2.2.2 k = 0 from hto.2.2.2 k c]
            rfl
          · rw [i1, nI_add] at e2
            subst e2
            refine nxt w4 ?_
            rw [e4, (hm3.pl 57 (by decide) (by decide)).2, (hm7.pl 57 (by decide) (by decide)).2, h57 k c]
      exact key 6 0 w7 (by omega) (Mo.rf _ _ _) (fun q hq => absurd hq (Nat.not_lt_zero q))
  | false =>
    have hlen := hto.1
    have h160 : sTl s ≤ 160 := hs.1.2.2.2.1
    refine glueI (val := -3) (nx := s) hs (r_A_read (t_parse hC.1 (tx_x hs.1 hC) (fun c => by rw [hr] at c; cases c) (fun _ w2 hm h3 h6 => ⟨fun c => ?_, fun _ => ⟨rfl, hC.t hm h3⟩⟩))) (fun w1 hM => r_B_read (u_text hM.1.1 (ux_x hs.1 hM) (fun c => by rw [hr] at c; cases c) (fun _ w2 hm h31 => zf' ⟨rfl, hM.t hm⟩))) hs.1
    rw [h6] at c
    exact absurd c (nI_n4 (by omega))
