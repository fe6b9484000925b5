/-- the next number with as many ones -/
theorem od_dec : ∀ x : Nat, 0 < x → ∃ j q, x = 2 ^ j * (2 * q + 1) := by
  intro x
  induction x using Nat.strongRecOn with
  | _ x ih =>
    intro hx
    by_cases h : x % 2 = 1
    · exact ⟨0, x / 2, by omega⟩
    · obtain ⟨j, q, e⟩ := ih (x / 2) (by omega) (by omega)
      refine ⟨j + 1, q, ?_⟩
      rw [Nat.pow_succ, Nat.mul_comm (2 ^ j), Nat.mul_assoc, ← e]
      omega
/-- x has the ones j .. j + r, no one at j + r + 1, and h above -/
def Gp (j r h x : Nat) : Prop := x = 2 ^ (j + r + 2) * h + 2 ^ j * (2 ^ (r + 1) - 1)
theorem gp_ex {x : Nat} (hx : 0 < x) : ∃ j r h, Gp j r h x := by
  obtain ⟨j, q, e⟩ := od_dec x hx
  obtain ⟨r, h, e2⟩ := od_dec (q + 1) (by omega)
  refine ⟨j, r, h, ?_⟩
  have p1 : 2 ^ (r + 1) = 2 * 2 ^ r := by rw [Nat.pow_succ, Nat.mul_comm]
  have p2 : 2 ^ (j + r + 2) * h = 2 ^ j * (2 * (2 ^ r * (2 * h))) := by
    rw [show j + r + 2 = j + (r + 2) by omega, Nat.pow_add, Nat.mul_assoc, Nat.pow_succ, Nat.pow_succ]
    congr 1
    rw [Nat.mul_assoc, Nat.mul_assoc, ← Nat.mul_assoc 2 (2 ^ r), Nat.mul_comm 2 (2 ^ r), Nat.mul_assoc]
  have p3 := Nat.two_pow_pos r
  rw [Nat.mul_add, Nat.mul_one] at e2
  unfold Gp
  rw [p2, p1, ← Nat.mul_add, e]
  congr 1
  omega
theorem lo_lt (j r : Nat) : 2 ^ j * (2 ^ (r + 1) - 1) < 2 ^ (j + r + 2) := by
  have h1 := Nat.two_pow_pos j
  have h2 : 2 ^ (j + r + 2) = 2 ^ j * 2 ^ (r + 2) := by rw [← Nat.pow_add]; congr 1
  rw [h2]
  refine Nat.mul_lt_mul_of_pos_left ?_ h1
  have : 2 ^ (r + 2) = 2 * 2 ^ (r + 1) := by rw [Nat.pow_succ 2 (r + 1), Nat.mul_comm]
  have := Nat.two_pow_pos (r + 1)
  omega
theorem lo_bit (j r i : Nat) : (2 ^ j * (2 ^ (r + 1) - 1)).testBit i = decide (j ≤ i ∧ i < j + r + 1) := by
  rw [Nat.testBit_two_pow_mul, Nat.testBit_two_pow_sub_one, ← Bool.decide_and]
  refine decide_eq_decide.mpr ?_
  omega
theorem gp_bit {j r h x : Nat} (hx : Gp j r h x) (i : Nat) : x.testBit i = if i < j + r + 2 then decide (j ≤ i ∧ i < j + r + 1) else h.testBit (i - (j + r + 2)) := by
  rw [show x = _ from hx, Nat.testBit_two_pow_mul_add h (lo_lt j r), lo_bit]
theorem gp_add {j r h x : Nat} (hx : Gp j r h x) : x + 2 ^ j = 2 ^ (j + r + 2) * h + 2 ^ (j + r + 1) := by
  have h1 := Nat.two_pow_pos (r + 1)
  have h2 : 2 ^ j * (2 ^ (r + 1) - 1) + 2 ^ j = 2 ^ (j + r + 1) := by
    have h3 : 2 ^ j * (2 ^ (r + 1) - 1) + 2 ^ j = 2 ^ j * (2 ^ (r + 1) - 1 + 1) := (Nat.mul_succ _ _).symm
    rw [h3, Nat.sub_add_cancel h1, ← Nat.pow_add]
    congr 1
  rw [show x = _ from hx, Nat.add_assoc, h2]
theorem ga_bit {j r h x : Nat} (hx : Gp j r h x) (i : Nat) : (x + 2 ^ j).testBit i = if i < j + r + 2 then decide (i = j + r + 1) else h.testBit (i - (j + r + 2)) := by
  rw [gp_add hx, Nat.testBit_two_pow_mul_add h (Nat.pow_lt_pow_right (by decide) (by omega)), Nat.testBit_two_pow]
  congr 1
  exact decide_eq_decide.mpr ⟨fun e => e.symm, fun e => e.symm⟩
theorem gx_eq {j r h x : Nat} (hx : Gp j r h x) : (x + 2 ^ j) ^^^ x = 2 ^ j * (2 ^ (r + 2) - 1) := by
  apply Nat.eq_of_testBit_eq
  intro i
  rw [Nat.testBit_xor, ga_bit hx, gp_bit hx, lo_bit j (r + 1) i]
  by_cases c : i < j + r + 2
  · rw [if_pos c, if_pos c]
    by_cases c2 : i = j + r + 1
    · rw [decide_eq_true c2, decide_eq_false (by omega), decide_eq_true (by omega)]
      rfl
    · rw [decide_eq_false c2, Bool.false_xor]
      exact decide_eq_decide.mpr (by omega)
  · rw [if_neg c, if_neg c, Bool.xor_self, decide_eq_false (by omega)]
theorem gl_eq {j r h x : Nat} (hx : Gp j r h x) (h64 : x < 2 ^ 64) : x &&& (2 ^ 64 - x) = 2 ^ j := by
  have h0 : 0 < x := by
    have h1 := Nat.two_pow_pos j
    have h2 : 0 < 2 ^ j * (2 ^ (r + 1) - 1) := Nat.mul_pos h1 (by have : 2 ^ (r + 1) = 2 * 2 ^ r := by rw [Nat.pow_succ, Nat.mul_comm]
                                                                  have := Nat.two_pow_pos r
                                                                  omega)
    have : x = _ := hx
    omega
  have hj : x.testBit j = true := by
    rw [gp_bit hx, if_pos (by omega)]
    exact decide_eq_true (by omega)
  have hj64 : j < 64 := bit_lt h64 hj
  have e1 : x - 1 = 2 ^ (j + 1) * ((2 ^ (r + 1) * h) + (2 ^ r - 1)) + (2 ^ j - 1) := by
    have h1 := Nat.two_pow_pos j
    have h2 := Nat.two_pow_pos r
    have e2 : x = _ := hx
    have e3 : 2 ^ (j + r + 2) * h = 2 ^ (j + 1) * (2 ^ (r + 1) * h) := by
      rw [← Nat.mul_assoc, ← Nat.pow_add]
      congr 2
      omega
    have e4 : 2 ^ j * (2 ^ (r + 1) - 1) = 2 ^ (j + 1) * (2 ^ r - 1) + 2 ^ j := by
      have : 2 ^ (r + 1) - 1 = 2 * (2 ^ r - 1) + 1 := by
        rw [Nat.pow_succ]
        omega
      rw [this, Nat.mul_add, Nat.mul_one, Nat.pow_succ, Nat.mul_assoc]
    rw [e2, e3, e4, Nat.mul_add]
    omega
  apply Nat.eq_of_testBit_eq
  intro i
  have e5 : 2 ^ 64 - x = 2 ^ 64 - (x - 1 + 1) := by rw [Nat.sub_add_cancel h0]
  rw [Nat.testBit_and, e5, Nat.testBit_two_pow_sub_succ (by omega), Nat.testBit_two_pow, e1, Nat.testBit_two_pow_mul_add _ (by have := Nat.two_pow_pos j; rw [Nat.pow_succ]; omega), gp_bit hx]
  rcases Nat.lt_trichotomy i j with c | c | c
  · rw [if_pos (show i < j + r + 2 by omega), decide_eq_false (show ¬ (j ≤ i ∧ i < j + r + 1) by omega), decide_eq_false (show ¬ j = i by omega), Bool.false_and]
  · rw [if_pos (show i < j + r + 2 by omega), if_pos (show i < j + 1 by omega), Nat.testBit_two_pow_sub_one, decide_eq_true (show j ≤ i ∧ i < j + r + 1 by omega), decide_eq_true (show i < 64 by omega), decide_eq_false (show ¬ i < j by omega), decide_eq_true (show j = i by omega)]
    rfl
  · rw [decide_eq_false (show ¬ j = i by omega), if_neg (show ¬ i < j + 1 by omega)]
    have e6 : (2 ^ (r + 1) * h + (2 ^ r - 1)).testBit (i - (j + 1)) = if i < j + r + 2 then decide (j ≤ i ∧ i < j + r + 1) else h.testBit (i - (j + r + 2)) := by
      rw [Nat.testBit_two_pow_mul_add h (by have := Nat.two_pow_pos r; rw [Nat.pow_succ]; omega), Nat.testBit_two_pow_sub_one]
      by_cases c2 : i < j + r + 2
      · rw [if_pos c2, if_pos (by omega)]
        exact decide_eq_decide.mpr (by omega)
      · rw [if_neg c2, if_neg (by omega)]
        congr 1
        omega
    rw [e6]
    cases (if i < j + r + 2 then decide (j ≤ i ∧ i < j + r + 1) else h.testBit (i - (j + r + 2))) <;> cases (decide (i < 64)) <;> rfl
/-- the number itself -/
def gos (x : Nat) : Nat := (x + (x &&& (2 ^ 64 - x))) ||| (((x + (x &&& (2 ^ 64 - x))) ^^^ x) / (x &&& (2 ^ 64 - x)) / 4)
theorem q4 (r : Nat) : (2 ^ (r + 2) - 1) / 4 = 2 ^ r - 1 := by
  have := Nat.two_pow_pos r
  rw [Nat.pow_succ, Nat.pow_succ]
  omega
theorem gos_eq {j r h x : Nat} (hx : Gp j r h x) (h64 : x < 2 ^ 64) : gos x = 2 ^ (j + r + 2) * h + (2 ^ (j + r + 1) + (2 ^ r - 1)) := by
  unfold gos
  rw [gl_eq hx h64, gx_eq hx, Nat.mul_div_cancel_left _ (Nat.two_pow_pos j), q4, gp_add hx]
  have h1 := Nat.two_pow_pos r
  have h2 : 2 ^ r - 1 < 2 ^ (j + r + 1) := by
    have := Nat.pow_le_pow_right (show 0 < 2 by decide) (show r ≤ j + r + 1 by omega)
    omega
  have e : 2 ^ (j + r + 2) * h + 2 ^ (j + r + 1) = 2 ^ (j + r + 1) * (2 * h + 1) := by
    rw [Nat.mul_add, Nat.mul_one, ← Nat.mul_assoc, ← Nat.pow_succ]
  rw [e, ← Nat.two_pow_add_eq_or_of_lt h2, ← e, Nat.add_assoc]
theorem gos_gt {x : Nat} (h0 : 0 < x) (h64 : x < 2 ^ 64) : x < gos x := by
  obtain ⟨j, r, h, hx⟩ := gp_ex h0
  rw [gos_eq hx h64]
  have e : x = _ := hx
  have h1 : 2 ^ j * (2 ^ (r + 1) - 1) < 2 ^ (j + r + 1) := by
    have h2 := Nat.two_pow_pos j
    rw [Nat.add_assoc, Nat.pow_add 2 j (r + 1)]
    refine Nat.mul_lt_mul_of_pos_left ?_ h2
    have := Nat.two_pow_pos (r + 1)
    omega
  omega
theorem ct_iv {a b n : Nat} (h1 : a ≤ b) (h2 : b ≤ n) : fb_ct (fun i => decide (a ≤ i ∧ i < b)) n = b - a := by
  have e1 := fb_ct_split (fun i => decide (a ≤ i ∧ i < b)) b (n - b)
  rw [show b + (n - b) = n by omega] at e1
  have e2 := fb_ct_split (fun i => decide (a ≤ i ∧ i < b)) a (b - a)
  rw [show a + (b - a) = b by omega] at e2
  have e3 : fb_ct (fun k => decide (a ≤ b + k ∧ b + k < b)) (n - b) = 0 := fb_ct_zero.mpr (fun k _ => decide_eq_false (by omega))
  have e4 : fb_ct (fun i => decide (a ≤ i ∧ i < b)) a = 0 := fb_ct_zero.mpr (fun k hk => decide_eq_false (by omega))
  have e5 : fb_ct (fun k => decide (a ≤ a + k ∧ a + k < b)) (b - a) = b - a := fb_ct_all.mpr (fun k hk => decide_eq_true (by omega))
  omega
theorem gos_pop {x : Nat} (h0 : 0 < x) (h30 : x < 2 ^ 30) : pop (gos x) = pop x := by
  obtain ⟨j, r, h, hx⟩ := gp_ex h0
  have h64 : x < 2 ^ 64 := by omega
  have hjr : j + r < 30 := by
    have h1 : x.testBit (j + r) = true := by
      rw [gp_bit hx, if_pos (by omega)]
      exact decide_eq_true (by omega)
    exact bit_lt h30 h1
  have hl : 2 ^ (j + r + 1) + (2 ^ r - 1) < 2 ^ (j + r + 2) := by
    have h1 := Nat.pow_le_pow_right (show 0 < 2 by decide) (show r ≤ j + r + 1 by omega)
    have h2 := Nat.two_pow_pos r
    rw [Nat.pow_succ 2 (j + r + 1)]
    omega
  have hb : ∀ i, i < j + r + 2 → (gos x).testBit i = decide (i < r ∨ i = j + r + 1) := fun i hi => by
    have h2 : 2 ^ r - 1 < 2 ^ (j + r + 1) := by
      have := Nat.pow_le_pow_right (show 0 < 2 by decide) (show r ≤ j + r + 1 by omega)
      have := Nat.two_pow_pos r
      omega
    have e1 : 2 ^ (j + r + 1) + (2 ^ r - 1) = 2 ^ (j + r + 1) * 1 + (2 ^ r - 1) := by rw [Nat.mul_one]
    rw [gos_eq hx h64, Nat.testBit_two_pow_mul_add h hl, if_pos hi, e1, Nat.testBit_two_pow_mul_add 1 h2, Nat.testBit_two_pow_sub_one]
    by_cases c : i < j + r + 1
    · rw [if_pos c]
      exact decide_eq_decide.mpr (by omega)
    · rw [if_neg c, show i - (j + r + 1) = 0 by omega, decide_eq_true (show i < r ∨ i = j + r + 1 by omega)]
      rfl
  have hh : ∀ i, j + r + 2 ≤ i → (gos x).testBit i = x.testBit i := fun i hi => by
    rw [gos_eq hx h64, Nat.testBit_two_pow_mul_add h hl, if_neg (by omega), gp_bit hx, if_neg (by omega)]
  unfold pop
  have s1 := fb_ct_split (fun i => (gos x).testBit i) (j + r + 2) (64 - (j + r + 2))
  have s2 := fb_ct_split (fun i => x.testBit i) (j + r + 2) (64 - (j + r + 2))
  rw [show j + r + 2 + (64 - (j + r + 2)) = 64 by omega] at s1 s2
  rw [s1, s2]
  have e1 : fb_ct (fun k => (gos x).testBit (j + r + 2 + k)) (64 - (j + r + 2)) = fb_ct (fun k => x.testBit (j + r + 2 + k)) (64 - (j + r + 2)) := fb_ct_cong (fun k _ => hh _ (by omega))
  have e2 : fb_ct (fun i => x.testBit i) (j + r + 2) = r + 1 := by
    rw [fb_ct_cong (q := fun i => decide (j ≤ i ∧ i < j + r + 1)) (fun i hi => by rw [gp_bit hx, if_pos hi]), ct_iv (by omega) (by omega)]
    omega
  have e3 : fb_ct (fun i => (gos x).testBit i) (j + r + 2) = r + 1 := by
    rw [fb_ct_succ, hb _ (by omega), decide_eq_true (Or.inr rfl), if_pos rfl]
    rw [fb_ct_cong (q := fun i => decide (0 ≤ i ∧ i < r)) (fun i hi => by rw [hb i (by omega)]; exact decide_eq_decide.mpr (by omega)), ct_iv (by omega) (by omega)]
    omega
  omega
theorem pop_ones {j : Nat} (hj : j ≤ 64) : pop (2 ^ j - 1) = j := by
  unfold pop
  rw [fb_ct_cong (q := fun i => decide (0 ≤ i ∧ i < j)) (fun i hi => by rw [Nat.testBit_two_pow_sub_one]; exact decide_eq_decide.mpr (by omega)), ct_iv (by omega) hj]
  omega
theorem lN_neg {x : Nat} (h : x ≤ 2 ^ 64) : -(lN x) = lN (2 ^ 64 - x) := by
  rw [← lN_sub h, show lN (2 ^ 64) = 0 by decide, Int64.zero_sub]
theorem gos_lt {x : Nat} (h0 : 0 < x) (h25 : x < 2 ^ 25) : gos x < 2 ^ 26 := by
  obtain ⟨j, r, h, hx⟩ := gp_ex h0
  rw [gos_eq hx (by omega)]
  have e : x = _ := hx
  have hjr : j + r < 25 := by
    have h1 : x.testBit (j + r) = true := by
      rw [gp_bit hx, if_pos (by omega)]
      exact decide_eq_true (by omega)
    exact bit_lt h25 h1
  have h3 : 2 ^ (j + r + 1) ≤ 2 ^ 25 := Nat.pow_le_pow_right (by decide) (by omega)
  have h1 := gp_add hx
  have h4 : 2 ^ r ≤ 2 ^ (j + r) := Nat.pow_le_pow_right (by decide) (by omega)
  have h5 : 2 ^ j * (2 ^ (r + 1) - 1) ≥ 2 ^ (j + r) := by
    rw [Nat.pow_add 2 j r]
    refine Nat.mul_le_mul_left _ ?_
    have := Nat.two_pow_pos r
    rw [Nat.pow_succ]
    omega
  have h6 : 2 ^ (j + r + 1) = 2 * 2 ^ (j + r) := by rw [Nat.pow_succ, Nat.mul_comm]
  omega
theorem t_gos {x : Nat} {w : Wd} {K : Int64 → Wd → Prop} (h0 : 0 < x) (h25 : x < 2 ^ 25) (h : K (lN (gos x)) w) : RunL 1 M_N_nextOfSameSize [.long (lN x)] w K := by
  obtain ⟨j, r, q, hx⟩ := gp_ex h0
  have h64 : x < 2 ^ 64 := by omega
  have hjr : j + r < 25 := by
    have h1 : x.testBit (j + r) = true := by
      rw [gp_bit hx, if_pos (by omega)]
      exact decide_eq_true (by omega)
    exact bit_lt h25 h1
  have hp : 2 ^ j ≤ 2 ^ 25 := Nat.pow_le_pow_right (by decide) (by omega)
  have hp0 := Nat.two_pow_pos j
  refine r_N_nextOfSameSize (fun b1 e1 b2 e2 => ?_)
  rw [lN_neg (by omega), fb_andL, gl_eq hx h64] at e1
  subst e1
  rw [lN_add] at e2
  subst e2
  rw [show (1 : Int64) = lN 1 from rfl, lN_sub hp0]
  refine t_bitCount (by omega) (fun a5 e5 => ?_)
  rw [pop_ones (by omega), i2, nI_add] at e5
  subst e5
  have hxl : (x + 2 ^ j) ^^^ x < 2 ^ 64 := Nat.xor_lt_two_pow (by omega) h64
  rw [fb_xorL, wb_shr hxl (by omega), fb_orL]
  have e6 : ((x + 2 ^ j) ^^^ x) / 2 ^ (j + 2) = ((x + 2 ^ j) ^^^ x) / 2 ^ j / 4 := by rw [Nat.pow_add, Nat.div_div_eq_div_mul]
  rw [e6]
  unfold gos at h
  rw [gl_eq hx h64] at h
  exact h
theorem u_gos {x : Nat} (h0 : 0 < x) (h25 : x < 2 ^ 25) : ∀ b3 : Int64, b3 = lN x &&& (-(lN x)) → ∀ b4 : Int64, b4 = lN x + b3 → (¬ b3 = 0) ∧ ∀ b5 : Int64, b5 = b4 ||| (((lN x ^^^ b4) / b3) >>> ((2 : Int32).toInt64 &&& 63)) → b5 = lN (gos x) := by
  obtain ⟨j, r, q, hx⟩ := gp_ex h0
  have h64 : x < 2 ^ 64 := by omega
  have hjr : j + r < 25 := by
    have h1 : x.testBit (j + r) = true := by
      rw [gp_bit hx, if_pos (by omega)]
      exact decide_eq_true (by omega)
    exact bit_lt h25 h1
  have hp : 2 ^ j ≤ 2 ^ 25 := Nat.pow_le_pow_right (by decide) (by omega)
  have hp0 := Nat.two_pow_pos j
  intro b3 e3 b4 e4
  rw [lN_neg (by omega), fb_andL, gl_eq hx h64] at e3
  subst e3
  rw [lN_add] at e4
  subst e4
  refine ⟨fun c => ?_, fun b5 e5 => ?_⟩
  · have := (fb_lN_inj (a := 2 ^ j) (b := 0) (by omega) (by decide)).mp c
    omega
  · have hxl : x ^^^ (x + 2 ^ j) < 2 ^ 30 := Nat.xor_lt_two_pow (by omega) (by omega)
    have hdl : (x ^^^ (x + 2 ^ j)) / 2 ^ j ≤ x ^^^ (x + 2 ^ j) := Nat.div_le_self _ _
    rw [fb_xorL, pk_lDiv (by omega) hp0 (by omega), pf_shr (d := 2) (by decide) (by omega), fb_orL] at e5
    rw [e5]
    unfold gos
    rw [gl_eq hx h64, Nat.xor_comm x]
