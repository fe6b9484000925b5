/-- the least of a number and the first k values of a row -/
def mnS (f : Nat → Nat) (a : Nat) : Nat → Nat
  | 0 => a
  | k + 1 => if f k < mnS f a k then f k else mnS f a k
theorem mnS_le (f : Nat → Nat) (a : Nat) : ∀ k, mnS f a k ≤ a ∧ ∀ g, g < k → mnS f a k ≤ f g
  | 0 => ⟨Nat.le_refl a, fun g hg => absurd hg (Nat.not_lt_zero g)⟩
  | k + 1 => by
    have ih := mnS_le f a k
    rw [mnS]
    split
    next h =>
      refine ⟨by omega, fun g hg => ?_⟩
      rcases Nat.lt_or_ge g k with h1 | h1
      · have := ih.2 g h1; omega
      · rw [show g = k by omega]; exact Nat.le_refl _
    next h =>
      refine ⟨ih.1, fun g hg => ?_⟩
      rcases Nat.lt_or_ge g k with h1 | h1
      · exact ih.2 g h1
      · rw [show g = k by omega]; omega
theorem mnS_is (f : Nat → Nat) (a : Nat) : ∀ k, mnS f a k = a ∨ ∃ g, g < k ∧ mnS f a k = f g
  | 0 => Or.inl rfl
  | k + 1 => by
    have ih := mnS_is f a k
    rw [mnS]
    split
    next h => exact Or.inr ⟨k, by omega, rfl⟩
    next h =>
      rcases ih with ih | ⟨g, hg, e⟩
      · exact Or.inl ih
      · exact Or.inr ⟨g, by omega, e⟩
/-- the normal form -/
def nfS (n m S : Nat) : Nat := mnS (fun g => trS n m S g) S (n * m)
theorem nfS_le {n m S g : Nat} (hg : g < n * m) : nfS n m S ≤ trS n m S g := (mnS_le _ _ _).2 g hg
theorem nfS_leS (n m S : Nat) : nfS n m S ≤ S := (mnS_le _ _ _).1
theorem nfS_is {n m S : Nat} (ok : GOK n m) (hS : S < 2 ^ (n * m)) : ∃ g, g < n * m ∧ nfS n m S = trS n m S g := by
  rcases mnS_is (fun g => trS n m S g) S (n * m) with h | ⟨g, hg, h⟩
  · exact ⟨0, ok.v0, by rw [trS_0 ok hS]; exact h⟩
  · exact ⟨g, hg, h⟩
theorem nfS_lt {n m S : Nat} (hS : S < 2 ^ (n * m)) : nfS n m S < 2 ^ (n * m) := Nat.lt_of_le_of_lt (nfS_leS n m S) hS
/-- a number that is one of the translates and below all of them is the normal form -/
theorem nfS_eq {n m S a : Nat} (ok : GOK n m) (hS : S < 2 ^ (n * m)) (h1 : ∀ g, g < n * m → a ≤ trS n m S g) (h2 : ∃ g, g < n * m ∧ a = trS n m S g) : a = nfS n m S := by
  obtain ⟨g, hg, e⟩ := h2
  obtain ⟨g2, hg2, e2⟩ := nfS_is ok hS
  have h3 := h1 g2 hg2
  have h4 := nfS_le (S := S) hg
  omega
theorem tr_shift {n m : Nat} (ok : GOK n m) (S : Nat) {g : Nat} (hg : g < n * m) : ∃ k, k < n * m ∧ (k + 1) % (n * m) = g := by
  have hv := ok.v0
  rcases Nat.eq_zero_or_pos g with h | h
  · exact ⟨n * m - 1, by omega, by rw [show n * m - 1 + 1 = n * m by omega, Nat.mod_self, h]⟩
  · exact ⟨g - 1, by omega, by rw [show g - 1 + 1 = g by omega, Nat.mod_eq_of_lt hg]⟩
theorem nfS_sh {n m S : Nat} (ok : GOK n m) (hS : S < 2 ^ (n * m)) : mnS (fun g => trS n m S ((g + 1) % (n * m))) S (n * m) = nfS n m S := by
  have hv := ok.v0
  refine nfS_eq ok hS (fun g hg => ?_) ?_
  · obtain ⟨k, hk, e⟩ := tr_shift ok S hg
    have := (mnS_le (fun g => trS n m S ((g + 1) % (n * m))) S (n * m)).2 k hk
    simp only [e] at this
    exact this
  · rcases mnS_is (fun g => trS n m S ((g + 1) % (n * m))) S (n * m) with h | ⟨g, hg, h⟩
    · exact ⟨0, hv, by rw [trS_0 ok hS]; exact h⟩
    · exact ⟨(g + 1) % (n * m), Nat.mod_lt _ hv, h⟩
theorem l_min {a b : Nat} (ha : a < 2 ^ 63) (hb : b < 2 ^ 63) : (if lN a < lN b then lN a else lN b) = lN (if a < b then a else b) := by
  by_cases h : a < b
  · rw [if_pos h, if_pos ((pk_lLT ha hb).mpr h)]
  · rw [if_neg h, if_neg (fun c => h ((pk_lLT ha hb).mp c))]
theorem t_least_l {n m S : Nat} {w : Wd} {K : Int64 → Wd → Prop} (hG : Gd n m w) (hS : S < 2 ^ (n * m)) (h : K (lN (nfS n m S)) w) :
    ∀ j k, k + j = n * m → E 1 M_G_leastTranslate 8 [(0, .ref 1), (3, .long (lN (mnS (fun g => trS n m S ((g + 1) % (n * m))) S k))), (5, .long (lN (trS n m S (k % (n * m))))), (7, .int (nI k))] [] w (qL 1 K) := by
  have ok := hG.1.1
  have hv := ok.2.2
  have h40 := pow40 hv
  intro j
  induction j with
  | zero =>
    intro k hk
    refine w_G_leastTranslate_8 ?_
    rw [hG.1.2.2.2.1]
    refine pk_le (n * m) k (fun _ => ?_) (fun c => by omega)
    rw [show k = n * m by omega, nfS_sh ok hS]
    exact h
  | succ j ih =>
    intro k hk
    refine w_G_leastTranslate_8 ?_
    rw [hG.1.2.2.2.1]
    refine pk_le (n * m) k (fun c => by omega) (fun c => ?_)
    rw [Nat.mod_eq_of_lt (show k < n * m by omega)]
    refine t_onward hG (by omega) (fun b3 e3 a4 e4 => ?_)
    rw [i1, nI_add] at e4
    subst e4
    have h1 := trS_lt ok S ((k + 1) % (n * m))
    have h2 := (mnS_le (fun g => trS n m S ((g + 1) % (n * m))) S k).1
    rw [l_min (by omega) (by omega)] at e3
    subst e3
    exact ih (k + 1) (by omega)
theorem t_least {n m S : Nat} {w : Wd} {K : Int64 → Wd → Prop} (hG : Gd n m w) (hS : S < 2 ^ (n * m)) (h : K (lN (nfS n m S)) w) : RunL 1 M_G_leastTranslate [.ref 1, .long (lN S)] w K := by
  have h1 := t_least_l hG hS h (n * m) 0 (by omega)
  rw [Nat.zero_mod, trS_0 hG.1.1 hS] at h1
  exact r_G_leastTranslate h1
theorem t_isLeast_l {n m S : Nat} {w : Wd} {K : Bool → Wd → Prop} (hG : Gd n m w) (hS : S < 2 ^ (n * m)) (h : K (decide (nfS n m S = S)) w) :
    ∀ j k, k + j = n * m → (∀ g, g < k → S ≤ trS n m S ((g + 1) % (n * m))) → E 1 M_G_isLeastTranslate 5 [(0, .ref 1), (1, .long (lN S)), (3, .long (lN (trS n m S (k % (n * m))))), (5, .int (nI k))] [] w (qZ 1 K) := by
  have ok := hG.1.1
  have hv := ok.2.2
  have h40 := pow40 hv
  intro j
  induction j with
  | zero =>
    intro k hk hno
    refine w_G_isLeastTranslate_5 ?_
    rw [hG.1.2.2.2.1]
    refine pk_le (n * m) k (fun _ => ?_) (fun c => by omega)
    have e : nfS n m S = S := by
      refine (nfS_eq ok hS (fun g hg => ?_) ⟨0, ok.v0, (trS_0 ok hS).symm⟩).symm
      obtain ⟨q, hq, eq⟩ := tr_shift ok S hg
      rw [← eq]
      exact hno q (by omega)
    rw [decide_eq_true e] at h
    exact h
  | succ j ih =>
    intro k hk hno
    refine w_G_isLeastTranslate_5 ?_
    rw [hG.1.2.2.2.1]
    refine pk_le (n * m) k (fun c => by omega) (fun c => ?_)
    rw [Nat.mod_eq_of_lt (show k < n * m by omega)]
    refine t_onward hG (by omega) ?_
    have h1 := trS_lt ok S ((k + 1) % (n * m))
    rw [pk_lLE (by omega) (by omega)]
    refine ⟨fun c1 a3 e3 => ?_, fun c1 => ?_⟩
    · rw [i1, nI_add] at e3
      subst e3
      refine ih (k + 1) (by omega) (fun g hg => ?_)
      rcases Nat.lt_or_ge g k with h2 | h2
      · exact hno g h2
      · rw [show g = k by omega]; exact c1
    · have h2 := nfS_le (S := S) (Nat.mod_lt (k + 1) ok.v0)
      rw [decide_eq_false (by omega)] at h
      exact h
theorem t_isLeast {n m S : Nat} {w : Wd} {K : Bool → Wd → Prop} (hG : Gd n m w) (hS : S < 2 ^ (n * m)) (h : K (decide (nfS n m S = S)) w) : RunZ 1 M_G_isLeastTranslate [.ref 1, .long (lN S)] w K := by
  have h1 := t_isLeast_l hG hS h (n * m) 0 (by omega) (fun g hg => absurd hg (Nat.not_lt_zero g))
  rw [Nat.zero_mod, trS_0 hG.1.1 hS] at h1
  exact r_G_isLeastTranslate h1
/-- how many translates are the set itself -/
def fixS (n m S : Nat) : Nat := fb_ct (fun g => decide (trS n m S g = S)) (n * m)
theorem ct_shift (p : Nat → Bool) {v : Nat} (hv : 0 < v) : fb_ct (fun g => p ((g + 1) % v)) v = fb_ct p v := by
  obtain ⟨k, rfl⟩ : ∃ k, v = k + 1 := ⟨v - 1, by omega⟩
  have h1 := fb_ct_split p 1 k
  rw [Nat.add_comm 1 k] at h1
  rw [h1, fb_ct_succ, Nat.mod_self, fb_ct_cong (q := fun g => p (1 + g)) (fun g hg => by rw [Nat.mod_eq_of_lt (by omega), Nat.add_comm])]
  rw [fb_ct_succ]
  show _ = 0 + _ + _
  omega
theorem t_fixing_l {n m S : Nat} {w : Wd} {K : Int32 → Wd → Prop} (hG : Gd n m w) (hS : S < 2 ^ (n * m)) (h : K (nI (fixS n m S)) w) :
    ∀ j k, k + j = n * m → E 1 M_G_fixingTranslates 8 [(0, .ref 1), (1, .long (lN S)), (3, .int (nI (fb_ct (fun g => decide (trS n m S ((g + 1) % (n * m)) = S)) k))), (4, .long (lN (trS n m S (k % (n * m))))), (6, .int (nI k))] [] w (qI 1 K) := by
  have ok := hG.1.1
  have hv := ok.2.2
  have h40 := pow40 hv
  intro j
  induction j with
  | zero =>
    intro k hk
    refine w_G_fixingTranslates_8 ?_
    rw [hG.1.2.2.2.1]
    refine pk_le (n * m) k (fun _ => ?_) (fun c => by omega)
    rw [show k = n * m by omega, ct_shift (fun g => decide (trS n m S g = S)) ok.v0]
    exact h
  | succ j ih =>
    intro k hk
    refine w_G_fixingTranslates_8 ?_
    rw [hG.1.2.2.2.1]
    refine pk_le (n * m) k (fun c => by omega) (fun c => ?_)
    rw [Nat.mod_eq_of_lt (show k < n * m by omega)]
    refine t_onward hG (by omega) ?_
    have h1 := trS_lt ok S ((k + 1) % (n * m))
    have ih1 := ih (k + 1) (by omega)
    rw [fb_ct_succ] at ih1
    rw [fb_lN_inj (by omega) (by omega)]
    refine ⟨fun c1 a3 e3 => ?_, fun c1 a4 e4 a5 e5 => ?_⟩
    · rw [i1, nI_add] at e3
      subst e3
      rw [if_neg (by simpa using c1), Nat.add_zero] at ih1
      exact ih1
    · rw [i1, nI_add] at e4 e5
      subst e4
      subst e5
      rw [if_pos (decide_eq_true c1)] at ih1
      exact ih1
theorem t_fixing {n m S : Nat} {w : Wd} {K : Int32 → Wd → Prop} (hG : Gd n m w) (hS : S < 2 ^ (n * m)) (h : K (nI (fixS n m S)) w) : RunI 1 M_G_fixingTranslates [.ref 1, .long (lN S)] w K := by
  have h1 := t_fixing_l hG hS h (n * m) 0 (by omega)
  rw [Nat.zero_mod, trS_0 hG.1.1 hS] at h1
  exact r_G_fixingTranslates h1
/-- the subgroup of two elements -/
def sgI (n m a y acc : Nat) : Nat → Nat
  | 0 => acc
  | j + 1 => sgI n m a y acc j ||| 2 ^ gA n m a (gM n m j y)
def sgO (n m x y : Nat) : Nat → Nat
  | 0 => 0
  | i + 1 => sgI n m (gM n m i x) y (sgO n m x y i) (ordG n m y)
def hoS (n m x y : Nat) : Nat := sgO n m x y (ordG n m x)
theorem sgI_bit (n m a y acc e : Nat) : ∀ k, (sgI n m a y acc k).testBit e = true ↔ acc.testBit e = true ∨ ∃ j, j < k ∧ gA n m a (gM n m j y) = e
  | 0 => by
    simp [sgI]
  | k + 1 => by
    rw [sgI, Nat.testBit_or, Bool.or_eq_true, sgI_bit n m a y acc e k, Nat.testBit_two_pow, decide_eq_true_eq]
    constructor
    · rintro ((h | ⟨j, hj, h⟩) | h)
      · exact Or.inl h
      · exact Or.inr ⟨j, by omega, h⟩
      · exact Or.inr ⟨k, by omega, h⟩
    · rintro (h | ⟨j, hj, h⟩)
      · exact Or.inl (Or.inl h)
      · rcases Nat.lt_or_ge j k with h1 | h1
        · exact Or.inl (Or.inr ⟨j, h1, h⟩)
        · rw [show j = k by omega] at h
          exact Or.inr h
theorem sgO_bit (n m x y e : Nat) : ∀ k, (sgO n m x y k).testBit e = true ↔ ∃ i, i < k ∧ ∃ j, j < ordG n m y ∧ gA n m (gM n m i x) (gM n m j y) = e
  | 0 => by
    constructor
    · intro h
      simp [sgO] at h
    · rintro ⟨i, hi, -⟩
      omega
  | k + 1 => by
    rw [sgO, sgI_bit, sgO_bit n m x y e k]
    constructor
    · rintro (⟨i, hi, h⟩ | h)
      · exact ⟨i, by omega, h⟩
      · exact ⟨k, by omega, h⟩
    · rintro ⟨i, hi, h⟩
      rcases Nat.lt_or_ge i k with h1 | h1
      · exact Or.inl ⟨i, h1, h⟩
      · rw [show i = k by omega] at h
        exact Or.inr h
theorem gM_ord {n m : Nat} (ok : GOK n m) (t x : Nat) : gM n m (t % ordG n m x) x = gM n m t x := by
  have h1 : gM n m (t / ordG n m x * ordG n m x) x = 0 := by rw [gM_mul ok, ord_yes ok, gM_z]
  have e : t = t % ordG n m x + t / ordG n m x * ordG n m x := by
    have := Nat.div_add_mod t (ordG n m x)
    rw [Nat.mul_comm] at this
    omega
  have h2 := gM_add ok (t % ordG n m x) (t / ordG n m x * ordG n m x) x
  rw [h1, gA_0 ok (gM_lt ok _ _), ← e] at h2
  exact h2.symm
theorem hoS_bit {n m x y e : Nat} (ok : GOK n m) : (hoS n m x y).testBit e = true ↔ ∃ i j, gA n m (gM n m i x) (gM n m j y) = e := by
  unfold hoS
  rw [sgO_bit]
  constructor
  · rintro ⟨i, -, j, -, h⟩
    exact ⟨i, j, h⟩
  · rintro ⟨i, j, h⟩
    refine ⟨i % ordG n m x, Nat.mod_lt _ (ord_pos n m x), j % ordG n m y, Nat.mod_lt _ (ord_pos n m y), ?_⟩
    rw [gM_ord ok, gM_ord ok]
    exact h
theorem hoS_lt {n m x y : Nat} (ok : GOK n m) : hoS n m x y < 2 ^ (n * m) := by
  apply lt_of_bits
  intro e he
  obtain ⟨i, j, rfl⟩ := (hoS_bit ok).mp he
  exact gA_lt ok _ _
