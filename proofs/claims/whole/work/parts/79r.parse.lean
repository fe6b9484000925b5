theorem ftF {A : Prop} (c : false = true) : A := by cases c
theorem tfF {A : Prop} (c : true = false) : A := by cases c
/-- the reading of a text: done or not, a number, a position -/
abbrev Rz : Type := Bool × Nat × Nat
def hrF (len : Nat) (tx : Nat → Nat) (p : Nat) : Nat := if p < len then tx p else 0
def dgB (len : Nat) (tx : Nat → Nat) (p : Nat) : Bool := decide (p < len ∧ 48 ≤ tx p ∧ tx p ≤ 57)
def nmF (len : Nat) (tx : Nat → Nat) : Nat → Nat → Nat → Nat × Nat
  | 0, p, v => (v, p)
  | f + 1, p, v => if dgB len tx p then nmF len tx f (p + 1) (min (10 * v + (tx p - 48)) 1000) else (v, p)
def nmR (len : Nat) (tx : Nat → Nat) (lim p : Nat) : Rz := if dgB len tx p then (if tx p = 48 then (true, 0, p + 1) else if (nmF len tx (len - p) p 0).1 < lim then (true, nmF len tx (len - p) p 0) else (false, 0, p)) else (false, 0, p)
def elS (len : Nat) (tx : Nat → Nat) (m a q : Nat) : Rz := if hrF len tx q = 46 then (if (nmR len tx m (q + 1)).1 then (true, m * a + (nmR len tx m (q + 1)).2.1, (nmR len tx m (q + 1)).2.2) else (false, 0, (nmR len tx m (q + 1)).2.2)) else (false, 0, q)
def elR (len : Nat) (tx : Nat → Nat) (n m p : Nat) : Rz := if (nmR len tx n p).1 then (if m = 1 then nmR len tx n p else elS len tx m (nmR len tx n p).2.1 (nmR len tx n p).2.2) else (false, 0, (nmR len tx n p).2.2)
def bkR (len : Nat) (tx : Nat → Nat) (n m : Nat) : Nat → Nat → Nat → Rz
  | 0, _, p => (false, 0, p)
  | f + 1, S, p => if (elR len tx n m p).1 then (if S.testBit (elR len tx n m p).2.1 then (false, 0, p) else if hrF len tx (elR len tx n m p).2.2 = 59 then (true, S ||| 2 ^ (elR len tx n m p).2.1, (elR len tx n m p).2.2 + 1) else if hrF len tx (elR len tx n m p).2.2 = 44 then bkR len tx n m f (S ||| 2 ^ (elR len tx n m p).2.1) ((elR len tx n m p).2.2 + 1) else (false, 0, (elR len tx n m p).2.2)) else (false, 0, (elR len tx n m p).2.2)
def txR (len : Nat) (tx : Nat → Nat) (n m : Nat) : Nat → Nat → Nat → (Nat → Nat) → Bool × Nat × Nat × (Nat → Nat)
  | 0, k, p, F => (decide (len ≤ p), p, k, F)
  | f + 1, k, p, F => if len ≤ p then (true, p, k, F) else if (bkR len tx n m 160 0 p).1 then txR len tx n m f (k + 1) (bkR len tx n m 160 0 p).2.2 (upF F k (bkR len tx n m 160 0 p).2.1) else (false, (bkR len tx n m 160 0 p).2.2, k, F)
section PR
variable {len n m : Nat} {tx : Nat → Nat}
theorem dg_t {p : Nat} (h : dgB len tx p = true) : p < len ∧ 48 ≤ tx p ∧ tx p ≤ 57 := of_decide_eq_true h
theorem hr_lt {p c : Nat} (h : hrF len tx p = c) (hc : c ≠ 0) : p < len := by
  unfold hrF at h
  by_cases e : p < len
  · exact e
  · rw [if_neg e] at h
    exact absurd h.symm hc
theorem nmF_ok : ∀ f p v, p ≤ len → v ≤ 1000 → (nmF len tx f p v).1 ≤ 1000 ∧ p ≤ (nmF len tx f p v).2 ∧ (nmF len tx f p v).2 ≤ len
  | 0, p, v, hp, hv => ⟨hv, Nat.le_refl p, hp⟩
  | f + 1, p, v, hp, hv => by
    rw [nmF]
    cases h : dgB len tx p
    · rw [if_neg (by decide)]
      exact ⟨hv, Nat.le_refl p, hp⟩
    · rw [if_pos rfl]
      have := nmF_ok f (p + 1) (min (10 * v + (tx p - 48)) 1000) (dg_t h).1 (Nat.min_le_right _ _)
      exact ⟨this.1, by omega, this.2.2⟩
theorem nmR_ok {lim p : Nat} (hlim : 0 < lim) (hp : p ≤ len) : (nmR len tx lim p).2.2 ≤ len ∧ ((nmR len tx lim p).1 = true → (nmR len tx lim p).2.1 < lim ∧ p < (nmR len tx lim p).2.2) := by
  unfold nmR
  cases h : dgB len tx p
  · rw [if_neg (by decide)]
    exact ⟨hp, fun c => ftF c⟩
  · rw [if_pos rfl]
    have hd := dg_t h
    by_cases h1 : tx p = 48
    · rw [if_pos h1]
      exact ⟨hd.1, fun _ => ⟨hlim, Nat.lt_succ_self p⟩⟩
    · rw [if_neg h1]
      by_cases h2 : (nmF len tx (len - p) p 0).1 < lim
      · rw [if_pos h2]
        have h3 : nmF len tx (len - p) p 0 = nmF len tx (len - p - 1) (p + 1) (min (10 * 0 + (tx p - 48)) 1000) := by
          rw [show len - p = (len - p - 1) + 1 by omega, nmF, h, if_pos rfl]
          rfl
        have h4 := nmF_ok (tx := tx) (len - p - 1) (p + 1) (min (10 * 0 + (tx p - 48)) 1000) hd.1 (Nat.min_le_right _ _)
        rw [← h3] at h4
        exact ⟨h4.2.2, fun _ => ⟨h2, by have := h4.2.1; show p < (nmF len tx (len - p) p 0).2; omega⟩⟩
      · rw [if_neg h2]
        exact ⟨hp, fun c => ftF c⟩
theorem elR_ok {p : Nat} (ok : GOK n m) (hp : p ≤ len) : (elR len tx n m p).2.2 ≤ len ∧ ((elR len tx n m p).1 = true → (elR len tx n m p).2.1 < n * m ∧ p < (elR len tx n m p).2.2) := by
  have h1 := nmR_ok (tx := tx) (lim := n) ok.n0 hp
  unfold elR
  cases h : (nmR len tx n p).1
  · rw [if_neg (by decide)]
    exact ⟨h1.1, fun c => ftF c⟩
  · rw [if_pos rfl]
    have h2 := h1.2 h
    by_cases em : m = 1
    · rw [if_pos em, em, Nat.mul_one]
      exact h1
    · rw [if_neg em]
      unfold elS
      by_cases e46 : hrF len tx (nmR len tx n p).2.2 = 46
      · rw [if_pos e46]
        have hq := hr_lt e46 (by decide)
        have h3 := nmR_ok (tx := tx) (lim := m) (p := (nmR len tx n p).2.2 + 1) ok.m0 hq
        cases h4 : (nmR len tx m ((nmR len tx n p).2.2 + 1)).1
        · rw [if_neg (by decide)]
          exact ⟨h3.1, fun c => ftF c⟩
        · rw [if_pos rfl]
          have h5 := h3.2 h4
          refine ⟨h3.1, fun _ => ⟨pr_lt h2.1 h5.1, ?_⟩⟩
          show p < (nmR len tx m ((nmR len tx n p).2.2 + 1)).2.2
          omega
      · rw [if_neg e46]
        exact ⟨h1.1, fun c => ftF c⟩
theorem bkR_ok (ok : GOK n m) : ∀ f S p, p ≤ len → S < 2 ^ (n * m) → (bkR len tx n m f S p).2.2 ≤ len ∧ ((bkR len tx n m f S p).1 = true → (bkR len tx n m f S p).2.1 < 2 ^ (n * m) ∧ (bkR len tx n m f S p).2.1 ≠ 0 ∧ p < (bkR len tx n m f S p).2.2)
  | 0, S, p, hp, hS => ⟨hp, fun c => ftF (by rw [bkR] at c; exact c)⟩
  | f + 1, S, p, hp, hS => by
    have h1 := elR_ok (tx := tx) ok hp
    rw [bkR]
    cases h : (elR len tx n m p).1
    · rw [if_neg (by decide)]
      exact ⟨h1.1, fun c => ftF c⟩
    · rw [if_pos rfl]
      have h2 := h1.2 h
      cases hb : S.testBit (elR len tx n m p).2.1
      · rw [if_neg (by decide)]
        have hS2 : S ||| 2 ^ (elR len tx n m p).2.1 < 2 ^ (n * m) := Nat.or_lt_two_pow hS (Nat.pow_lt_pow_right (by decide) h2.1)
        by_cases e59 : hrF len tx (elR len tx n m p).2.2 = 59
        · rw [if_pos e59]
          refine ⟨hr_lt e59 (by decide), fun _ => ⟨hS2, fun e => ?_, ?_⟩⟩
          · have e' : S ||| 2 ^ (elR len tx n m p).2.1 = 0 := e
            have := fb_bit_set S (elR len tx n m p).2.1 (elR len tx n m p).2.1
            rw [e', Nat.zero_testBit, decide_eq_true rfl, Bool.or_true] at this
            cases this
          · show p < (elR len tx n m p).2.2 + 1
            omega
        · rw [if_neg e59]
          by_cases e44 : hrF len tx (elR len tx n m p).2.2 = 44
          · rw [if_pos e44]
            have h3 := bkR_ok ok f (S ||| 2 ^ (elR len tx n m p).2.1) ((elR len tx n m p).2.2 + 1) (hr_lt e44 (by decide)) hS2
            exact ⟨h3.1, fun c => ⟨(h3.2 c).1, (h3.2 c).2.1, by have := (h3.2 c).2.2; omega⟩⟩
          · rw [if_neg e44]
            exact ⟨h1.1, fun c => ftF c⟩
      · rw [if_pos rfl]
        exact ⟨hp, fun c => ftF c⟩
theorem txR_ok (ok : GOK n m) : ∀ f k p F, k + f = 6 → p ≤ len → (∀ i, i < k → F i < 2 ^ (n * m)) → (∀ i, k ≤ i → F i = 0) → (txR len tx n m f k p F).2.1 ≤ len ∧ (txR len tx n m f k p F).2.2.1 ≤ 6 ∧ (∀ i, i < (txR len tx n m f k p F).2.2.1 → (txR len tx n m f k p F).2.2.2 i < 2 ^ (n * m)) ∧ ∀ i, (txR len tx n m f k p F).2.2.1 ≤ i → (txR len tx n m f k p F).2.2.2 i = 0
  | 0, k, p, F, hk, hp, h1, h2 => ⟨hp, by show k ≤ 6; omega, h1, h2⟩
  | f + 1, k, p, F, hk, hp, h1, h2 => by
    rw [txR]
    by_cases c : len ≤ p
    · rw [if_pos c]
      exact ⟨hp, by show k ≤ 6; omega, h1, h2⟩
    · rw [if_neg c]
      have hb := bkR_ok (tx := tx) ok 160 0 p hp (Nat.two_pow_pos _)
      cases h : (bkR len tx n m 160 0 p).1
      · rw [if_neg (by decide)]
        exact ⟨hb.1, by show k ≤ 6; omega, h1, h2⟩
      · rw [if_pos rfl]
        refine txR_ok ok f (k + 1) _ _ (by omega) hb.1 (fun i hi => ?_) (fun i hi => ?_)
        · by_cases e : i = k
          · rw [e, upF_eq]
            exact (hb.2 h).1
          · rw [upF_ne e]
            exact h1 i (by omega)
        · rw [upF_ne (by omega)]
          exact h2 i (by omega)
end PR
/-- the object's reader -/
def tX (len : Nat) (tx : Nat → Nat) (w : Wd) : Prop := len ≤ 160 ∧ w.1 32 3 = nI len ∧ ∀ i, i < len → w.1 33 i = nI (tx i) ∧ tx i ≤ 126
def pS (r : Rz) (w w' : Wd) : Prop := OnI 32 w w' ∧ w'.1 32 3 = w.1 32 3 ∧ w'.1 32 4 = w.1 32 4 ∧ (r.1 = true → w'.1 32 5 = nI r.2.2 ∧ w'.1 32 6 = w.1 32 6) ∧ (r.1 = false → w'.1 32 6 = nI r.2.2)
def vR (r : Rz) : Int32 := if r.1 then nI r.2.1 else -1
theorem tX.on {len : Nat} {tx : Nat → Nat} {w w' : Wd} (h : tX len tx w) (hm : OnI 32 w w') (h3 : w'.1 32 3 = w.1 32 3) : tX len tx w' := ⟨h.1, by rw [h3]; exact h.2.1, fun i hi => by rw [hm.1 33 (by decide)]; exact h.2.2 i hi⟩
theorem t_dg {len p : Nat} {tx : Nat → Nat} {w : Wd} {K : Bool → Wd → Prop} (hX : tX len tx w) (hp : w.1 32 5 = nI p) (hpl : p ≤ len) (h : K (dgB len tx p) w) : RunZ 1 M_T_isNextDigit [.ref 32] w K := by
  have h160 := hX.1
  refine r_T_isNextDigit ?_
  rw [hp, hX.2.1, nI_clamp (by omega)]
  refine pk_le len p (fun c => ?_) (fun c => ⟨vp_in_nI (by omega) (by decide), ?_⟩)
  · rw [show dgB len tx p = false from decide_eq_false (by omega)] at h
    exact h
  · have hc := hX.2.2 p c
    rw [hc.1]
    refine pk_lt (tx p) 48 (fun c2 => ?_) (fun c2 => ⟨vp_in_nI (by omega) (by decide), pk_lt 57 (tx p) (fun c3 => ?_) (fun c3 => ?_)⟩)
    · rw [show dgB len tx p = false from decide_eq_false (by omega)] at h
      exact h
    · rw [show dgB len tx p = false from decide_eq_false (by omega)] at h
      exact h
    · rw [show dgB len tx p = true from decide_eq_true (by omega)] at h
      exact h
theorem t_nx {len p c : Nat} {tx : Nat → Nat} {w : Wd} {K : Bool → Wd → Prop} (hX : tX len tx w) (hp : w.1 32 5 = nI p) (hpl : p ≤ len) (hc : c ≠ 0) (hc2 : c ≤ 126) (h : K (decide (hrF len tx p = c)) w) : RunZ 1 M_T_isNext [.ref 32, .int (nI c)] w K := by
  have h160 := hX.1
  refine r_T_isNext ?_
  rw [hp, hX.2.1, nI_clamp (by omega)]
  refine pk_le len p (fun c1 => ?_) (fun c1 => ⟨vp_in_nI (by omega) (by decide), ?_⟩)
  · rw [decide_eq_false (fun e => by have := hr_lt e hc; omega)] at h
    exact h
  · have hcx := hX.2.2 p c1
    have e : hrF len tx p = tx p := if_pos c1
    rw [e] at h
    rw [hcx.1]
    refine ⟨fun c2 => ?_, fun c2 => ?_⟩
    · rw [decide_eq_false (fun e2 => c2 (by rw [e2]))] at h
      exact h
    · rw [decide_eq_true (nI_inj (by omega) (by omega) c2)] at h
      exact h
theorem t_num {len lim p : Nat} {tx : Nat → Nat} {w0 : Wd} {K : Int32 → Wd → Prop} (hX : tX len tx w0) (hp : w0.1 32 5 = nI p) (hpl : p ≤ len) (hlim : lim ≤ 40) (h : ∀ w, pS (nmR len tx lim p) w0 w → K (vR (nmR len tx lim p)) w) : RunI 1 M_T_parseNumber [.ref 32, .int (nI lim)] w0 K := by
  have h160 := hX.1
  refine r_T_parseNumber (fun a1 e1 => t_dg hX hp hpl ?_)
  rw [hp] at e1
  subst e1
  unfold nmR at h
  cases hd : dgB len tx p with
  | false =>
    rw [hd, if_neg (by decide)] at h
    refine zf' (fun w7 e7 => h w7 ⟨by rw [e7]; exact (OnI.rf _ _).up _ _, by rw [e7, upI_ne (by omega)], by rw [e7, upI_ne (by omega)], fun c => ftF c, fun _ => by rw [e7, upI_eq, hp]⟩)
  | true =>
    rw [hd, if_pos rfl] at h
    have hdt := dg_t hd
    refine zt' ?_
    rw [show (48 : Int32) = nI 48 from rfl]
    refine t_nx hX hp hpl (by decide) (by decide) ?_
    rw [show hrF len tx p = tx p from if_pos hdt.1]
    by_cases e48 : tx p = 48
    · rw [decide_eq_true e48]
      rw [if_pos e48] at h
      refine zt (fun w6 e6 => h w6 ⟨by rw [e6]; exact (OnI.rf _ _).up _ _, by rw [e6, upI_ne (by omega)], by rw [e6, upI_ne (by omega)], fun _ => ⟨by rw [e6, upI_eq, hp, i1, nI_add], by rw [e6, upI_ne (by omega)]⟩, fun c => tfF c⟩)
    · rw [decide_eq_false e48]
      rw [if_neg e48] at h
      refine zf ?_
      have key : ∀ f q v w, q + f = len → v ≤ 1000 → OnI 32 w0 w → w.1 32 3 = w0.1 32 3 → w.1 32 4 = w0.1 32 4 → w.1 32 6 = w0.1 32 6 → w.1 32 5 = nI q → (∀ w', pS (if (nmF len tx f q v).1 < lim then (true, nmF len tx f q v) else (false, 0, p)) w0 w' → K (vR (if (nmF len tx f q v).1 < lim then (true, nmF len tx f q v) else (false, 0, p))) w') → E 1 M_T_parseNumber 45 [(0, .ref 32), (1, .int (nI lim)), (2, .int (nI p)), (3, .int (nI v))] [] w (qI 1 K) := by
        have stop : ∀ q v w, v ≤ 1000 → OnI 32 w0 w → w.1 32 3 = w0.1 32 3 → w.1 32 4 = w0.1 32 4 → w.1 32 6 = w0.1 32 6 → w.1 32 5 = nI q → (∀ w', pS (if v < lim then (true, v, q) else (false, 0, p)) w0 w' → K (vR (if v < lim then (true, v, q) else (false, 0, p))) w') → (nI v < nI lim → K (nI v) w) ∧ (¬ nI v < nI lim → ∀ w1 : Wd, w1 = upI w 32 6 (nI p) → K ((-1)) w1) := by
          intro q v w hv hm h3 h4 h6 h5 hK
          refine pk_lt v lim (fun c => ?_) (fun c w1 e1 => ?_)
          · rw [if_pos c] at hK
            exact hK w ⟨hm, h3, h4, fun _ => ⟨h5, h6⟩, fun c => tfF c⟩
          · rw [if_neg (by omega)] at hK
            exact hK w1 ⟨by rw [e1]; exact hm.up _ _, by rw [e1, upI_ne (by omega)]; exact h3, by rw [e1, upI_ne (by omega)]; exact h4, fun c => ftF c, fun _ => by rw [e1, upI_eq]⟩
        intro f
        induction f with
        | zero =>
          intro q v w hq hv hm h3 h4 h6 h5 hK
          refine w_T_parseNumber_45 ?_
          rw [h3, hX.2.1, h5]
          exact pk_le len q (fun _ => stop q v w hv hm h3 h4 h6 h5 hK) (fun c => by omega)
        | succ f ih =>
          intro q v w hq hv hm h3 h4 h6 h5 hK
          rw [nmF] at hK
          have hXw := hX.on hm h3
          refine w_T_parseNumber_45 ?_
          rw [h3, hX.2.1, h5]
          refine pk_le len q (fun c => by omega) (fun _ => t_dg hXw h5 (by omega) ?_)
          cases hdq : dgB len tx q with
          | false =>
            rw [hdq, if_neg (show ¬ false = true by decide)] at hK
            exact zf (stop q v w hv hm h3 h4 h6 h5 hK)
          | true =>
            rw [hdq, if_pos rfl] at hK
            have hdt2 := dg_t hdq
            refine zt ?_
            rw [h5, nI_clamp (by omega), (hXw.2.2 q hdt2.1).1]
            refine ⟨vp_in_nI (by omega) (by decide), fun a5 e5 w6 e6 => ?_⟩
            rw [i1, nI_add] at e6
            rw [show (10 : Int32) = nI 10 from rfl, show (48 : Int32) = nI 48 from rfl, show (1000 : Int32) = nI 1000 from rfl, pk_mul, nI_add, pk_sub (by omega), show 10 * v + tx q - 48 = 10 * v + (tx q - 48) by omega] at e5
            have e5' : a5 = nI (min (10 * v + (tx q - 48)) 1000) := by
              rw [e5]
              by_cases c : 1000 < 10 * v + (tx q - 48)
              · rw [if_pos (nI_lt c (by omega)), Nat.min_eq_right (by omega)]
              · rw [if_neg (nI_nlt (by omega) (by decide)), Nat.min_eq_left (by omega)]
            subst e5'
            exact ih (q + 1) _ w6 (by omega) (Nat.min_le_right _ _) (by rw [e6]; exact hm.up _ _) (by rw [e6, upI_ne (by omega)]; exact h3) (by rw [e6, upI_ne (by omega)]; exact h4) (by rw [e6, upI_ne (by omega)]; exact h6) (by rw [e6, upI_eq]) hK
      exact key (len - p) p 0 w0 (by omega) (by omega) (OnI.rf _ _) rfl rfl rfl hp h
theorem pS.f {r : Rz} {w0 w1 w2 : Wd} (h : pS r w0 w1) (hr : r.1 = true) {q : Nat} (e : w2 = upI w1 32 6 (nI q)) : pS (false, 0, q) w0 w2 := by
  obtain ⟨h1, h2, h3, h4, h5⟩ := h
  exact ⟨by rw [e]; exact h1.up _ _, by rw [e, upI_ne (by omega)]; exact h2, by rw [e, upI_ne (by omega)]; exact h3, fun c => ftF c, fun _ => by rw [e, upI_eq]⟩
theorem t_elem {len n m p : Nat} {tx : Nat → Nat} {w0 : Wd} {K : Int32 → Wd → Prop} (hG : Gd n m w0) (hX : tX len tx w0) (hp : w0.1 32 5 = nI p) (hpl : p ≤ len) (h : ∀ w, pS (elR len tx n m p) w0 w → K (vR (elR len tx n m p)) w) : RunI 1 M_T_parseElement [.ref 32] w0 K := by
  have ok := hG.1.1
  have hn := ok.n40
  have hm := ok.m40
  have h160 := hX.1
  have hnok := nmR_ok (tx := tx) (lim := n) ok.n0 hpl
  refine r_T_parseElement ?_
  rw [hG.1.2.1]
  refine t_num hX hp hpl hn (fun w1 h1 => ?_)
  have hG1 : Gd n m w1 := hG.mo h1.1.mo (by decide)
  unfold elR at h
  unfold vR
  cases hr : (nmR len tx n p).1 with
  | false =>
    rw [hr, if_neg (by decide)] at h
    rw [if_neg (by decide)]
    refine ⟨fun _ => h w1 ⟨h1.1, h1.2.1, h1.2.2.1, fun c => ftF c, fun _ => h1.2.2.2.2 hr⟩, fun c => absurd (show (-1 : Int32) < 0 by decide) c⟩
  | true =>
    rw [hr, if_pos rfl] at h
    rw [if_pos rfl, hG1.1.2.2.1, i1]
    have hv := (hnok.2 hr).1
    have h15 := (h1.2.2.2.1 hr).1
    refine pk_lt (nmR len tx n p).2.1 0 (fun c => by omega) (fun _ => ?_)
    by_cases em : m = 1
    · rw [if_pos em] at h
      refine ⟨fun c => absurd (by rw [em]) c, fun _ => ?_⟩
      have := h w1 h1
      unfold vR at this
      rw [hr, if_pos rfl] at this
      exact this
    · rw [if_neg em] at h
      unfold elS at h
      refine ⟨fun _ => ?_, fun c => absurd (nI_inj (by omega) (by omega) c) em⟩
      rw [show (46 : Int32) = nI 46 from rfl]
      refine t_nx (hX.on h1.1 h1.2.1) h15 hnok.1 (by decide) (by decide) ?_
      by_cases e46 : hrF len tx (nmR len tx n p).2.2 = 46
      · rw [decide_eq_true e46]
        rw [if_pos e46] at h
        have hq := hr_lt e46 (by decide)
        have hmok := nmR_ok (tx := tx) (lim := m) (p := (nmR len tx n p).2.2 + 1) ok.m0 hq
        refine zt' (fun w5 e5 => ?_)
        rw [h15, nI_add] at e5
        have o5 : OnI 32 w0 w5 := by rw [e5]; exact h1.1.up _ _
        have k3 : w5.1 32 3 = w0.1 32 3 := by rw [e5, upI_ne (by omega)]; exact h1.2.1
        have k4 : w5.1 32 4 = w0.1 32 4 := by rw [e5, upI_ne (by omega)]; exact h1.2.2.1
        have k6 : w5.1 32 6 = w0.1 32 6 := by rw [e5, upI_ne (by omega)]; exact (h1.2.2.2.1 hr).2
        have hG5 : Gd n m w5 := hG.mo o5.mo (by decide)
        rw [hG5.1.2.2.1]
        refine t_num (hX.on o5 k3) (by rw [e5, upI_eq]) hq (by omega) (fun w6 h6 => ?_)
        have hG6 : Gd n m w6 := hG5.mo h6.1.mo (by decide)
        rw [hG6.1.2.2.1]
        unfold vR
        cases hr2 : (nmR len tx m ((nmR len tx n p).2.2 + 1)).1 with
        | false =>
          rw [hr2, if_neg (by decide)] at h
          rw [if_neg (by decide)]
          exact ⟨fun c => absurd c (by decide), fun _ => h w6 ⟨o5.tr h6.1, h6.2.1.trans k3, h6.2.2.1.trans k4, fun c => ftF c, fun _ => h6.2.2.2.2 hr2⟩⟩
        | true =>
          rw [hr2, if_pos rfl] at h
          rw [if_pos rfl]
          have hv2 := (hmok.2 hr2).1
          refine ⟨fun _ => ?_, fun c => absurd (nI_le (a := 0) (b := (nmR len tx m ((nmR len tx n p).2.2 + 1)).2.1) (Nat.zero_le _) (by omega)) c⟩
          rw [pk_mul, nI_add]
          exact h w6 ⟨o5.tr h6.1, h6.2.1.trans k3, h6.2.2.1.trans k4, fun _ => ⟨(h6.2.2.2.1 hr2).1, (h6.2.2.2.1 hr2).2.trans k6⟩, fun c => tfF c⟩
      · rw [decide_eq_false e46]
        rw [if_neg e46] at h
        refine zf' (fun w8 e8 => ?_)
        rw [h15] at e8
        exact h w8 (h1.f hr e8)
