/-- the two halves of onward: the second coordinate goes on by one, the first by one -/
def nx1 (m ls T : Nat) : Nat := ((T &&& (ls ^^^ (2 ^ 64 - 1))) * 2) ||| ((T &&& ls) / 2 ^ (m - 1))
def nx2 (v m T : Nat) : Nat := ((T * 2 ^ m) ||| (T / 2 ^ (v - m))) &&& (2 ^ v - 1)
theorem ls_bit {m n y : Nat} (hm : 0 < m) (hy : y < n * m) : (lsS m n).testBit y = true ↔ y % m = m - 1 := by
  rw [lsS_bit]
  constructor
  · rintro ⟨a, ha, rfl⟩
    rw [show m * a + m - 1 = m * a + (m - 1) by omega, pr_mod (by omega)]
  · intro h
    refine ⟨y / m, el_div hy, ?_⟩
    have := Nat.div_add_mod y m
    omega
theorem gA_e1 {n m x : Nat} (ok : GOK n m) (hx : x < n * m) : gA n m x (1 % m) = m * (x / m) + (x % m + 1) % m := by
  have hm := ok.m0
  have h1 : 1 % m < m := Nat.mod_lt 1 hm
  unfold gA
  rw [Nat.div_eq_of_lt h1, Nat.add_zero, Nat.mod_eq_of_lt (el_div hx), Nat.mod_mod, Nat.add_mod_mod]
theorem gA_m {n m x : Nat} (ok : GOK n m) : gA n m x m = m * ((x / m + 1) % n) + x % m := by
  unfold gA
  rw [Nat.div_self ok.m0, Nat.mod_self, Nat.add_zero (x % m), Nat.mod_mod]
theorem nx1_tr {n m T : Nat} (ok : GOK n m) (hT : T < 2 ^ (n * m)) : nx1 m (lsS m n) T = trS n m T (1 % m) := by
  have hm := ok.m0
  have hv := ok.2.2
  apply bits_ext
  intro y
  unfold nx1
  rw [Nat.testBit_or, Bool.or_eq_true, trS_bit]
  have e2 : ∀ q, (q * 2 : Nat) = q * 2 ^ 1 := fun q => by rw [Nat.pow_one]
  rw [e2, Nat.testBit_mul_two_pow, Nat.testBit_div_two_pow]
  simp only [Nat.testBit_and, Nat.testBit_xor, full_bit, Bool.and_eq_true, decide_eq_true_eq]
  constructor
  · rintro (⟨h1, h2, h3⟩ | ⟨h1, h2⟩)
    · have hlt := bit_lt hT h2
      have hnl : ¬ (y - 1) % m = m - 1 := by
        intro h4
        rw [(ls_bit hm hlt).mpr h4, decide_eq_true (show y - 1 < 64 by omega)] at h3
        cases h3
      have hm2 := Nat.mod_lt (y - 1) hm
      refine ⟨y - 1, hlt, h2, ?_⟩
      rw [gA_e1 ok hlt, Nat.mod_eq_of_lt (show (y - 1) % m + 1 < m by omega)]
      have := Nat.div_add_mod (y - 1) m
      omega
    · have hlt := bit_lt hT h1
      have h4 := (ls_bit hm hlt).mp h2
      refine ⟨y + (m - 1), hlt, h1, ?_⟩
      rw [gA_e1 ok hlt, h4, show m - 1 + 1 = m by omega, Nat.mod_self]
      have := Nat.div_add_mod (y + (m - 1)) m
      omega
  · rintro ⟨x, hx, h1, rfl⟩
    rw [gA_e1 ok hx]
    have hm2 := Nat.mod_lt x hm
    have hd := Nat.div_add_mod x m
    rcases Nat.lt_or_ge (x % m + 1) m with h2 | h2
    · left
      rw [Nat.mod_eq_of_lt h2]
      have e : m * (x / m) + (x % m + 1) - 1 = x := by omega
      refine ⟨by omega, by rw [e]; exact h1, ?_⟩
      rw [e]
      have hn : (lsS m n).testBit x = false := by
        cases hb : (lsS m n).testBit x with
        | false => rfl
        | true => have := (ls_bit hm hx).mp hb; omega
      rw [hn, decide_eq_true (show x < 64 by omega)]
      rfl
    · right
      have h3 : x % m + 1 = m := by omega
      rw [h3, Nat.mod_self, Nat.add_zero]
      have e : m * (x / m) + (m - 1) = x := by omega
      rw [e]
      exact ⟨h1, (ls_bit hm hx).mpr (by omega)⟩
theorem nx2_tr {n m T : Nat} (ok : GOK n m) (hT : T < 2 ^ (n * m)) : nx2 (n * m) m T = trS n m T m := by
  have hm := ok.m0
  have hmv := ok.mv
  have hn := ok.1
  apply bits_ext
  intro y
  unfold nx2
  rw [Nat.testBit_and, Nat.testBit_or, full_bit, trS_bit, Nat.testBit_mul_two_pow, Nat.testBit_div_two_pow]
  simp only [Bool.and_eq_true, Bool.or_eq_true, decide_eq_true_eq]
  constructor
  · rintro ⟨⟨h1, h2⟩ | h2, hy⟩
    · have hlt := bit_lt hT h2
      refine ⟨y - m, hlt, h2, ?_⟩
      obtain ⟨z, rfl⟩ : ∃ z, y = z + m := ⟨y - m, by omega⟩
      rw [Nat.add_sub_cancel] at hlt h2 ⊢
      have h3 := el_div hy
      rw [Nat.add_div_right z hm] at h3
      rw [gA_m ok, Nat.mod_eq_of_lt (by omega), Nat.mul_add, Nat.mul_one]
      have := Nat.div_add_mod z m
      omega
    · have hlt := bit_lt hT h2
      refine ⟨y + (n * m - m), hlt, h2, ?_⟩
      have e : y + (n * m - m) = y + m * (n - 1) := by
        rw [Nat.mul_sub, Nat.mul_one, Nat.mul_comm m n]
      have hy2 : y < m := by omega
      rw [e, gA_m ok, Nat.add_mul_div_left _ _ hm, Nat.add_mul_mod_self_left, Nat.div_eq_of_lt hy2, Nat.mod_eq_of_lt hy2, show 0 + (n - 1) + 1 = n by omega, Nat.mod_self]
      omega
  · rintro ⟨x, hx, h1, rfl⟩
    have hlt := gA_lt ok x m
    refine ⟨?_, hlt⟩
    have hxn := el_div hx
    have hd := Nat.div_add_mod x m
    rw [gA_m ok] at hlt ⊢
    rcases Nat.lt_or_ge (x / m + 1) n with h2 | h2
    · left
      rw [Nat.mod_eq_of_lt h2]
      have e : m * (x / m + 1) + x % m = x + m := by rw [Nat.mul_add, Nat.mul_one]; omega
      rw [e]
      exact ⟨by omega, by rw [Nat.add_sub_cancel]; exact h1⟩
    · right
      have h3 : x / m + 1 = n := by omega
      rw [h3, Nat.mod_self, Nat.mul_zero, Nat.zero_add]
      have e : x % m + (n * m - m) = x := by
        have e2 : n * m - m = m * (x / m) := by
          rw [← h3, Nat.add_mul, Nat.one_mul, Nat.add_sub_cancel, Nat.mul_comm]
        omega
      rw [e]
      exact h1
/-- onward from the translate by g -/
def gNext (n m g : Nat) : Nat := gA n m g (if g % m < m - 1 then 1 % m else gA n m (1 % m) m)
theorem gNext_eq {n m g : Nat} (ok : GOK n m) (hg : g < n * m) : gNext n m g = (g + 1) % (n * m) := by
  have hm := ok.m0
  have hn := ok.1
  have hgm := Nat.mod_lt g hm
  have hgn := el_div hg
  have hd := Nat.div_add_mod g m
  unfold gNext
  split
  next h =>
    rw [gA_e1 ok hg, Nat.mod_eq_of_lt (show g % m + 1 < m by omega)]
    have hlt := pr_lt hgn (show g % m + 1 < m by omega)
    rw [show g + 1 = m * (g / m) + (g % m + 1) by omega, Nat.mod_eq_of_lt hlt]
  next h =>
    have h1 : g % m + 1 = m := by omega
    rw [← gA_assoc ok, gA_e1 ok hg, h1, Nat.mod_self, Nat.add_zero, gA_m ok, Nat.mul_div_cancel_left _ hm, Nat.mul_mod_right, Nat.add_zero]
    have e : g + 1 = m * (g / m + 1) := by rw [Nat.mul_add, Nat.mul_one]; omega
    rw [e, Nat.mul_comm n m, Nat.mul_mod_mul_left]
theorem nx_tr {n m S g : Nat} (ok : GOK n m) (hg : g < n * m) : (if g % m < m - 1 then nx1 m (lsS m n) (trS n m S g) else nx2 (n * m) m (nx1 m (lsS m n) (trS n m S g))) = trS n m S ((g + 1) % (n * m)) := by
  rw [← gNext_eq ok hg]
  unfold gNext
  have h1 := trS_lt ok S g
  rw [nx1_tr ok h1]
  split
  · rw [trS_tr ok]
  · rw [nx2_tr ok (trS_lt ok _ _), trS_tr ok, trS_tr ok]
theorem l_xor1 (a : Nat) : lN a ^^^ (-1) = lN (a ^^^ (2 ^ 64 - 1)) := by
  rw [show (-1 : Int64) = lN (2 ^ 64 - 1) from by decide +kernel, fb_xorL]
theorem nx1_lt {n m T : Nat} (ok : GOK n m) (hT : T < 2 ^ (n * m)) : nx1 m (lsS m n) T < 2 ^ (n * m) := by
  rw [nx1_tr ok hT]
  exact trS_lt ok _ _
theorem pow40 {v : Nat} (h : v ≤ 40) : 2 ^ v ≤ 2 ^ 40 := Nat.pow_le_pow_right (by decide) h
theorem t_onward {n m S g : Nat} {w : Wd} {K : Int64 → Wd → Prop} (hG : Gd n m w) (hg : g < n * m) (h : K (lN (trS n m S ((g + 1) % (n * m)))) w) : RunL 1 M_G_onward [.ref 1, .long (lN (trS n m S g)), .int (nI g)] w K := by
  have ok := hG.1.1
  have hv := ok.2.2
  have hm := ok.m0
  have hm40 := ok.m40
  have hmv := ok.mv
  have hT := trS_lt ok S g
  rw [← nx_tr ok hg] at h
  generalize trS n m S g = T at hT h ⊢
  have h40 := pow40 hv
  have hls : lsS m n < 2 ^ (n * m) := by
    apply lt_of_bits
    intro y hy
    obtain ⟨a, ha, rfl⟩ := (lsS_bit m y n).mp hy
    have := pr_lt ha (show m - 1 < m by omega)
    omega
  refine r_G_onward (fun b1 e1 => ⟨vp_in_nI (by omega) (by decide), ?_⟩)
  rw [hG.2.2.1, hG.1.2.2.1, l_xor1, fb_andL, fb_andL, i1, wb_shl _ (by decide), pk_sub (by omega), wb_shr (Nat.lt_of_le_of_lt Nat.and_le_left (by omega)) (by omega), fb_orL, Nat.pow_one] at e1
  have e2 : b1 = lN (nx1 m (lsS m n) T) := e1
  have hlt := nx1_lt ok hT
  rw [nI_clamp (by omega), hG.1.2.2.1, (hG.1.2.2.2.2 g hg).2, hG.1.2.2.2.1, hG.2.1, e2, i1, pk_sub (by omega)]
  have hgm := Nat.mod_lt g hm
  refine pk_le (m - 1) (g % m) (fun c => ?_) (fun c => ?_)
  · rw [if_neg (by omega)] at h
    rw [wb_shl _ (by omega), pk_sub (by omega), wb_shr (by omega) (by omega), fb_orL, fb_andL]
    exact h
  · rw [if_pos c] at h
    exact h
