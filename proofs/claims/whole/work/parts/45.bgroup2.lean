def PAb (q k : Nat) : Prop := q = 45 ∨ q = 46 ∨ (q = 39 ∧ k = 11)
theorem Bg.ch {n m : Nat} {P : Nat → Nat → Prop} {w w' : Wd} (h : Bg n m w) (hc : ChI P w w') (h1 : ∀ k, k < 3 → ¬ P 39 k) : Bg n m w' := by
  obtain ⟨ok, e0, e1, e2⟩ := h
  exact ⟨ok, by rw [hc.1 39 0 (h1 0 (by decide))]; exact e0, by rw [hc.1 39 1 (h1 1 (by decide))]; exact e1, by rw [hc.1 39 2 (h1 2 (by decide))]; exact e2⟩
theorem Bg.ab {n m : Nat} {w w' : Wd} (h : Bg n m w) (hc : ChI PAb w w') : Bg n m w' := h.ch hc (fun k hk => by unfold PAb; omega)
def AuB (l : List (Nat × Nat)) (w : Wd) : Prop := w.1 39 11 = nI l.length ∧ ∀ k, k < l.length → w.1 45 k = nI (l.getD k (0, 0)).1 ∧ w.1 46 k = nI (l.getD k (0, 0)).2
theorem getD_l {l : List (Nat × Nat)} {q : Nat × Nat} {k : Nat} (h : k < l.length) : (l ++ [q]).getD k (0, 0) = l.getD k (0, 0) := by
  simp only [List.getD_eq_getElem?_getD]
  rw [List.getElem?_append_left h]
theorem getD_r {l : List (Nat × Nat)} {q : Nat × Nat} : (l ++ [q]).getD l.length (0, 0) = q := by
  simp only [List.getD_eq_getElem?_getD]
  rw [List.getElem?_append_right (Nat.le_refl _), Nat.sub_self]
  rfl
theorem u_find_i {n m z : Nat} {w0 : Wd} {K : Wd → Prop} (hB : Bg n m w0) (hz : z < n * m)
    (hcont : ∀ w, ChI PAb w0 w → AuB (auO n m (z + 1)) w → E 1 M_B_findAutomorphisms 7 [(0, .ref 39), (1, .int (nI (z + 1)))] [] w (qV 1 K)) :
    ∀ j u w, u + j = n * m → ChI PAb w0 w → AuB (auO n m z ++ auI n m z u) w → E 1 M_B_findAutomorphisms 29 [(0, .ref 39), (1, .int (nI z)), (2, .int (nI u))] [] w (qV 1 K) := by
  have ok := hB.1
  have hv := ok.2.2
  have h480 := aut480 ok
  intro j
  induction j with
  | zero =>
    intro u w hu hc hA
    have hw := hB.ab hc
    refine w_B_findAutomorphisms_29 ?_
    rw [hw.2.2.2]
    refine pk_le (n * m) u (fun _ a1 e1 => ?_) (fun c => by omega)
    rw [i1, nI_add] at e1
    subst e1
    refine hcont w hc ?_
    rw [auO]
    rw [show u = n * m by omega] at hA
    exact hA
  | succ j ih =>
    intro u w hu hc hA
    have hw := hB.ab hc
    have huv : u < n * m := by omega
    have hlen := au_le hz (u := u) (by omega)
    refine w_B_findAutomorphisms_29 ?_
    rw [hw.2.2.2]
    refine pk_le (n * m) u (fun c => by omega) (fun c => u_isAut hw huv hz ⟨fun hb a4 e4 => ?_, fun hb => ?_⟩)
    · rw [i1, nI_add] at e4
      subst e4
      refine ih (u + 1) w (by omega) hc ?_
      rw [auI, if_neg (by rw [hb]; decide), List.append_nil]
      exact hA
    · generalize hl : auO n m z ++ auI n m z u = l at hA hlen
      rw [hA.1]
      refine ⟨vp_in_nI (by omega) (by decide), fun w5 e5 => ?_⟩
      rw [nI_clamp (by omega)] at e5
      have q5 : w5.1 39 11 = nI l.length := by rw [e5, upI_ne (by omega)]; exact hA.1
      rw [q5]
      refine ⟨vp_in_nI (by omega) (by decide), fun w6 e6 w7 e7 a8 e8 => ?_⟩
      rw [nI_clamp (by omega)] at e6
      have q6 : w6.1 39 11 = nI l.length := by rw [e6, upI_ne (by omega)]; exact q5
      rw [q6, i1, nI_add] at e7
      rw [i1, nI_add] at e8
      subst e8
      refine ih (u + 1) w7 (by omega) ?_ ?_
      · rw [e7, e6, e5]
        exact ((hc.up (q := 45) (Or.inl rfl) _).up (q := 46) (Or.inr (Or.inl rfl)) _).up (q := 39) (Or.inr (Or.inr ⟨rfl, rfl⟩)) _
      · rw [auI, if_pos hb, ← List.append_assoc, hl]
        refine ⟨?_, fun k hk => ?_⟩
        · rw [e7, upI_eq, List.length_append]
          rfl
        · rw [List.length_append] at hk
          simp only [List.length_cons, List.length_nil] at hk
          rcases Nat.lt_or_ge k l.length with h1 | h1
          · rw [getD_l h1, e7, upI_ne (by omega), upI_ne (by omega), e6, upI_ne (by omega), upI_ne (by omega), e5, upI_ne (by omega), upI_ne (by omega)]
            exact hA.2 k h1
          · have hk2 : k = l.length := by omega
            subst hk2
            rw [getD_r, e7, upI_ne (by omega), upI_ne (by omega), e6, upI_ne (by omega), upI_eq, e5, upI_eq]
            exact ⟨rfl, rfl⟩
theorem auI_one {n z : Nat} (ok : GOK n 1) (hz0 : 0 < z) (hz : z < n * 1) : ∀ k, auI n 1 z k = []
  | 0 => rfl
  | k + 1 => by
    rw [auI, auI_one ok hz0 hz k, if_neg (fun h => ?_)]
    · rfl
    · simp only [isAut, Bool.and_eq_true, decide_eq_true_eq] at h
      rw [gM_1 ok hz] at h
      omega
theorem auO_one {n : Nat} (ok : GOK n 1) : ∀ k, 1 ≤ k → k ≤ n * 1 → auO n 1 k = auO n 1 1
  | 0, h, _ => by omega
  | k + 1, _, hk => by
    rcases Nat.eq_zero_or_pos k with h0 | h0
    · rw [h0]
    · rw [auO, auI_one ok h0 (by omega), List.append_nil]
      exact auO_one ok k h0 (by omega)
theorem u_find_o {n m : Nat} {w0 : Wd} {K : Wd → Prop} (hB : Bg n m w0) (h : ∀ w, ChI PAb w0 w → AuB (autL n m) w → K w) :
    ∀ j z w, z + j = n * m → (m = 1 → z ≤ 1) → ChI PAb w0 w → AuB (auO n m z) w → E 1 M_B_findAutomorphisms 7 [(0, .ref 39), (1, .int (nI z))] [] w (qV 1 K) := by
  have ok := hB.1
  have hv := ok.2.2
  have hm := ok.m40
  have hmv := ok.mv
  have hm0 := ok.m0
  intro j
  induction j with
  | zero =>
    intro z w hz h1 hc hA
    have hw := hB.ab hc
    refine w_B_findAutomorphisms_7 ?_
    rw [hw.2.2.2, hw.2.2.1, and_comm]
    refine pk_eq m 1 (fun c => ?_) (fun c => ?_)
    · have := h1 c
      omega
    · refine pk_le (n * m) z (fun _ => ?_) (fun c => by omega)
      rw [show z = n * m by omega] at hA
      exact h w hc hA
  | succ j ih =>
    intro z w hz h1 hc hA
    have hw := hB.ab hc
    have hzv : z < n * m := by omega
    have hin : (m = 1 → z + 1 ≤ 1) → E 1 M_B_findAutomorphisms 29 [(0, .ref 39), (1, .int (nI z)), (2, .int (nI 0))] [] w (qV 1 K) := by
      intro h2
      refine u_find_i hB hzv (fun w2 hc2 hA2 => ih (z + 1) w2 (by omega) h2 hc2 hA2) (n * m) 0 w (by omega) hc ?_
      rw [auI, List.append_nil]
      exact hA
    refine w_B_findAutomorphisms_7 ?_
    rw [hw.2.2.2, hw.2.2.1, and_comm]
    refine pk_eq m 1 (fun c => pk_le 1 z (fun c2 => ?_) (fun c2 => hin (fun _ => by omega))) (fun c => pk_le (n * m) z (fun c2 => by omega) (fun c2 => hin (fun c3 => absurd c3 c)))
    have hz1 : z = 1 := by have := h1 c; omega
    refine h w hc ?_
    subst c
    rw [hz1] at hA
    unfold autL
    rw [auO_one ok (n * 1) (by omega) (Nat.le_refl _)]
    exact hA
theorem u_find {n m : Nat} {w : Wd} {K : Wd → Prop} (hB : Bg n m w) (h : ∀ w', ChI PAb w w' → AuB (autL n m) w' → K w') : RunV 1 M_B_findAutomorphisms [.ref 39] w K := by
  refine r_B_findAutomorphisms (fun w1 e1 => ?_)
  refine u_find_o hB h (n * m) 0 w1 (by omega) (fun _ => by omega) (by rw [e1]; exact (ChI.rf PAb w).up (Or.inr (Or.inr ⟨rfl, rfl⟩)) _) ⟨?_, fun k hk => absurd hk (Nat.not_lt_zero k)⟩
  rw [e1, upI_eq]
  rfl
/-- gcd -/
theorem u_gcd_l {w : Wd} {K : Int32 → Wd → Prop} : ∀ j x y, y ≤ j → x < 2 ^ 31 → y < 2 ^ 31 → K (nI (Nat.gcd x y)) w → E 1 M_B_gcd 4 [(2, .int (nI x)), (3, .int (nI y))] [] w (qI 1 K) := by
  intro j
  induction j with
  | zero =>
    intro x y hy hx31 hy31 h
    refine w_B_gcd_4 (pk_eq y 0 (fun c => ?_) (fun c => absurd (Nat.le_zero.mp hy) c))
    rw [c, Nat.gcd_zero_right] at h
    exact h
  | succ j ih =>
    intro x y hy hx31 hy31 h
    refine w_B_gcd_4 (pk_eq y 0 (fun c => ?_) (fun c => ⟨nI_ne0 (by omega) hy31, fun a1 e1 => ?_⟩))
    · rw [c, Nat.gcd_zero_right] at h
      exact h
    · rw [pk_rem hx31 (by omega) hy31] at e1
      subst e1
      have hl := Nat.mod_lt x (show y > 0 by omega)
      refine ih y (x % y) (by omega) hy31 (by omega) ?_
      rw [Nat.gcd_comm, Nat.gcd_rec] at h
      rw [Nat.gcd_comm]
      exact h
theorem u_gcd {x y : Nat} {w : Wd} {K : Int32 → Wd → Prop} (hx : x < 2 ^ 31) (hy : y < 2 ^ 31) (h : K (nI (Nat.gcd x y)) w) : RunI 1 M_B_gcd [.int (nI x), .int (nI y)] w K := r_B_gcd (u_gcd_l y x y (Nat.le_refl y) hx hy h)
/-- the number of elements, bit by bit -/
theorem low_bit : ∀ S : Nat, 0 < S → ∃ i q, S = 2 ^ i * (2 * q + 1) := by
  intro S
  induction S using Nat.strongRecOn with
  | _ S ih =>
    intro h
    rcases Nat.mod_two_eq_zero_or_one S with h0 | h1
    · obtain ⟨i, q, e⟩ := ih (S / 2) (by omega) (by omega)
      refine ⟨i + 1, q, ?_⟩
      rw [Nat.pow_succ, Nat.mul_comm (2 ^ i) 2, Nat.mul_assoc, ← e]
      omega
    · exact ⟨0, S / 2, by rw [Nat.pow_zero, Nat.one_mul]; omega⟩
theorem and_pred {i q : Nat} (j : Nat) : (2 ^ i * (2 * q + 1) &&& (2 ^ i * (2 * q + 1) - 1)).testBit j = if j = i then false else (2 ^ i * (2 * q + 1)).testBit j := by
  have hp : 0 < 2 ^ i := Nat.two_pow_pos i
  have e0 : 2 ^ i * (2 * q + 1) = 2 ^ i * (2 * q + 1) + 0 := rfl
  have e1 : 2 ^ i * (2 * q + 1) - 1 = 2 ^ i * (2 * q) + (2 ^ i - 1) := by rw [Nat.mul_add, Nat.mul_one]; omega
  rw [Nat.testBit_and, e1]
  rw [Nat.testBit_two_pow_mul_add (2 * q) (show 2 ^ i - 1 < 2 ^ i by omega)]
  have h2 := Nat.testBit_two_pow_mul_add (2 * q + 1) (show 0 < 2 ^ i from hp) j
  rw [Nat.add_zero] at h2
  rw [h2]
  rcases Nat.lt_trichotomy j i with h | h | h
  · rw [if_pos h, if_pos h, if_neg (by omega), Nat.zero_testBit]
    rfl
  · subst h
    rw [if_neg (Nat.lt_irrefl j), if_neg (Nat.lt_irrefl j), if_pos rfl, Nat.sub_self]
    have : (2 * q).testBit 0 = false := by rw [Nat.testBit_zero]; simp
    rw [this, Bool.and_false]
  · rw [if_neg (by omega), if_neg (by omega), if_neg (by omega)]
    obtain ⟨k, hk⟩ : ∃ k, j - i = k + 1 := ⟨j - i - 1, by omega⟩
    rw [hk, Nat.testBit_succ, Nat.testBit_succ, show (2 * q + 1) / 2 = 2 * q / 2 by omega, Bool.and_self]
theorem pop_pred {S : Nat} (h0 : 0 < S) (hS : S < 2 ^ 64) : pop (S &&& (S - 1)) + 1 = pop S := by
  obtain ⟨i, q, rfl⟩ := low_bit S h0
  have hb : (2 ^ i * (2 * q + 1)).testBit i = true := by
    have h2 := Nat.testBit_two_pow_mul_add (2 * q + 1) (show 0 < 2 ^ i from Nat.two_pow_pos i) i
    rw [Nat.add_zero, if_neg (Nat.lt_irrefl i), Nat.sub_self, Nat.testBit_zero] at h2
    rw [h2]
    simp
  have hi := bit_lt hS hb
  have h1 := fb_ct_upd (fun j => (2 ^ i * (2 * q + 1)).testBit j) false hi
  rw [if_pos hb] at h1
  unfold pop
  rw [fb_ct_cong (q := fun k => if k = i then false else (2 ^ i * (2 * q + 1)).testBit k) (fun k _ => and_pred k)]
  exact h1
theorem pop_0 : pop 0 = 0 := by decide
theorem pop_le (S : Nat) : pop S ≤ 64 := fb_ct_le _ 64
theorem u_size_l {w : Wd} {K : Int32 → Wd → Prop} {T : Nat} (h : K (nI T) w) : ∀ j S k, pop S ≤ j → S < 2 ^ 62 → k + pop S = T → T ≤ 64 → E 1 M_B_size 4 [(2, .int (nI k)), (3, .long (lN S))] [] w (qI 1 K) := by
  intro j
  induction j with
  | zero =>
    intro S k hj hS e hT
    refine w_B_size_4 ?_
    rw [lN_0 (by omega)]
    refine ⟨fun c => ?_, fun c => ?_⟩
    · rw [show k = T by omega]
      exact h
    · have := pop_pred (show 0 < S by omega) (by omega)
      omega
  | succ j ih =>
    intro S k hj hS e hT
    refine w_B_size_4 ?_
    rw [lN_0 (by omega)]
    refine ⟨fun c => ?_, fun c a1 e1 b2 e2 => ?_⟩
    · rw [c, pop_0] at e
      rw [show k = T by omega]
      exact h
    · have hp := pop_pred (show 0 < S by omega) (by omega)
      rw [i1, nI_add] at e1
      subst e1
      rw [l1_, lN_sub (by omega), fb_andL] at e2
      subst e2
      have hle : S &&& (S - 1) ≤ S := Nat.and_le_left
      exact ih (S &&& (S - 1)) (k + 1) (by omega) (by omega) (by omega) hT
theorem u_size {S : Nat} {w : Wd} {K : Int32 → Wd → Prop} (hS : S < 2 ^ 62) (h : K (nI (pop S)) w) : RunI 1 M_B_size [.long (lN S)] w K := r_B_size (u_size_l h (pop S) S 0 (Nat.le_refl _) hS (by omega) (pop_le S))
